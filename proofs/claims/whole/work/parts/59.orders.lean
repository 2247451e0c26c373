/-! ===== orders: sums, least ones, first ones ===== -/
theorem nft : ¬ (false = true) := by decide
theorem ptt : true = true := rfl
def sF (X : Nat → Nat) : Nat → Nat → Nat
  | _, 0 => 0
  | j, m + 1 => X j + sF X (j + 1) m
theorem sF_s (X : Nat → Nat) (j m : Nat) : sF X j (m + 1) = X j + sF X (j + 1) m := rfl
theorem sF_0 (X : Nat → Nat) (j : Nat) : sF X j 0 = 0 := rfl
theorem sF_pre (X : Nat → Nat) : ∀ m j, sF X j (m + 1) = sF X j m + X (j + m)
  | 0, j => by
    show X j + 0 = 0 + X (j + 0)
    rw [Nat.zero_add]
    rfl
  | m + 1, j => by
    rw [sF_s, sF_pre X m (j + 1), sF_s X j m, show j + 1 + m = j + (m + 1) by omega]
    omega
theorem sF_le (X : Nat → Nat) (K : Nat) (h : ∀ i, X i ≤ K) : ∀ m j, sF X j m ≤ m * K
  | 0, j => by
    show 0 ≤ 0 * K
    omega
  | m + 1, j => by
    rw [sF_s, Nat.succ_mul]
    have h1 := sF_le X K h m (j + 1)
    have h2 := h j
    omega
theorem sF_c {X Y : Nat → Nat} : ∀ m j, (∀ i, j ≤ i → i < j + m → X i = Y i) → sF X j m = sF Y j m
  | 0, j, _ => rfl
  | m + 1, j, h => by
    rw [sF_s, sF_s, h j (Nat.le_refl j) (by omega), sF_c m (j + 1) (fun i h1 h2 => h i (by omega) (by omega))]
def mn (a b : Nat) : Nat := if b < a then b else a
theorem mn_min (a b : Nat) : mn a b = min a b := by
  unfold mn
  split <;> omega
def omin : Option Nat → Option Nat → Option Nat
  | none, b => b
  | some a, none => some a
  | some a, some b => some (mn a b)
theorem omin_n (a : Option Nat) : omin a none = a := by cases a <;> rfl
theorem omin_a (a b c : Option Nat) : omin (omin a b) c = omin a (omin b c) := by
  cases a with
  | none => rfl
  | some a =>
    cases b with
    | none => rfl
    | some b =>
      cases c with
      | none => rfl
      | some c =>
        show some (mn (mn a b) c) = some (mn a (mn b c))
        rw [mn_min, mn_min, mn_min, mn_min, Nat.min_assoc]
def mF (X : Nat → Option Nat) : Nat → Nat → Option Nat
  | _, 0 => none
  | j, m + 1 => omin (X j) (mF X (j + 1) m)
theorem mF_s (X : Nat → Option Nat) (j m : Nat) : mF X j (m + 1) = omin (X j) (mF X (j + 1) m) := rfl
theorem mF_0 (X : Nat → Option Nat) (j : Nat) : mF X j 0 = none := rfl
theorem mF_pre (X : Nat → Option Nat) : ∀ m j, mF X j (m + 1) = omin (mF X j m) (X (j + m))
  | 0, j => by
    show omin (X j) none = omin none (X (j + 0))
    rw [omin_n]
    rfl
  | m + 1, j => by
    rw [mF_s, mF_pre X m (j + 1), mF_s X j m, omin_a, show j + 1 + m = j + (m + 1) by omega]
theorem mF_c {X Y : Nat → Option Nat} : ∀ m j, (∀ i, j ≤ i → i < j + m → X i = Y i) → mF X j m = mF Y j m
  | 0, j, _ => rfl
  | m + 1, j, h => by
    rw [mF_s, mF_s, h j (Nat.le_refl j) (by omega), mF_c m (j + 1) (fun i h1 h2 => h i (by omega) (by omega))]
theorem mF_le (X : Nat → Option Nat) (K : Nat) (h : ∀ i r, X i = some r → r ≤ K) : ∀ m j r, mF X j m = some r → r ≤ K
  | 0, j, r, e => by cases e
  | m + 1, j, r, e => by
    rw [mF_s] at e
    cases h1 : X j with
    | none =>
      rw [h1] at e
      exact mF_le X K h m (j + 1) r e
    | some a =>
      have ha := h j a h1
      rw [h1] at e
      cases h2 : mF X (j + 1) m with
      | none =>
        rw [h2] at e
        have e : some a = some r := e
        cases e
        exact ha
      | some b =>
        rw [h2] at e
        have e : some (mn a b) = some r := e
        cases e
        rw [mn_min]
        omega
theorem mF_none {X : Nat → Option Nat} {Y : Nat → Nat} (h : ∀ i, X i = none ↔ Y i = 0) : ∀ m j, mF X j m = none ↔ sF Y j m = 0
  | 0, j => ⟨fun _ => rfl, fun _ => rfl⟩
  | m + 1, j => by
    rw [mF_s, sF_s]
    have ih := mF_none h m (j + 1)
    have hj := h j
    cases h1 : X j with
    | none =>
      rw [h1] at hj
      have := hj.1 rfl
      rw [this, Nat.zero_add]
      exact ih
    | some a =>
      rw [h1] at hj
      have hn : Y j ≠ 0 := fun q => by have := hj.2 q; cases this
      constructor
      · intro e
        cases h2 : mF X (j + 1) m with
        | none => rw [h2] at e; cases e
        | some b => rw [h2] at e; cases e
      · intro e
        omega
def fi (p : Nat → Bool) : Nat → Nat → Nat
  | j, 0 => j
  | j, m + 1 => if p j = true then j else fi p (j + 1) m
theorem fi_s (p : Nat → Bool) (j m : Nat) : fi p j (m + 1) = if p j = true then j else fi p (j + 1) m := rfl
theorem fi_spec (p : Nat → Bool) : ∀ m j, j ≤ fi p j m ∧ fi p j m ≤ j + m ∧ (fi p j m < j + m → p (fi p j m) = true) ∧ (∀ i, j ≤ i → i < fi p j m → p i = false)
  | 0, j => ⟨Nat.le_refl j, Nat.le_refl j, fun h => absurd h (Nat.lt_irrefl j), fun i h1 h2 => by
      have h2 : i < j := h2
      omega⟩
  | m + 1, j => by
    rw [fi_s]
    obtain ⟨h1, h2, h3, h4⟩ := fi_spec p m (j + 1)
    cases c : p j with
    | true =>
      rw [if_pos ptt]
      exact ⟨Nat.le_refl j, by omega, fun _ => c, fun i g1 g2 => by omega⟩
    | false =>
      rw [if_neg nft]
      refine ⟨by omega, by omega, fun h => h3 (by omega), fun i g1 g2 => ?_⟩
      by_cases e : i = j
      · rw [e]; exact c
      · exact h4 i (by omega) g2
def itf {A : Type} (X : Nat → A → A) : Nat → Nat → A → A
  | _, 0, a => a
  | j, m + 1, a => itf X (j + 1) m (X j a)
theorem itf_s {A : Type} (X : Nat → A → A) (j m : Nat) (a : A) : itf X j (m + 1) a = itf X (j + 1) m (X j a) := rfl
theorem itf_0 {A : Type} (X : Nat → A → A) (j : Nat) (a : A) : itf X j 0 a = a := rfl
theorem itf_fi {A : Type} (X : Nat → A → A) (p : Nat → Bool) (h : ∀ i a, p i = false → X i a = a) : ∀ m j a, itf X j m a = if fi p j m < j + m then itf X (fi p j m + 1) (j + m - (fi p j m + 1)) (X (fi p j m) a) else a
  | 0, j, a => (if_neg (Nat.lt_irrefl j)).symm
  | m + 1, j, a => by
    rw [itf_s, fi_s]
    cases c : p j with
    | true =>
      rw [if_pos ptt, if_pos (by omega), show j + (m + 1) - (j + 1) = m by omega]
    | false =>
      rw [if_neg nft, h j a c, itf_fi X p h m (j + 1) a, show j + 1 + m = j + (m + 1) by omega]
/-! ===== the orders as both walk them ===== -/
/-- i may come to place p, when those of s are placed and l is the last of them -/
def bC (ad : Nat → Bool) (G : Nat → Nat) (s l p i : Nat) : Bool := !s.testBit i && (!ad p || (G l).testBit i)
def tN (M : Nat) (ad : Nat → Bool) (G : Nat → Nat) : Nat → Nat → Nat → Nat
  | 0, _, _ => 1
  | f + 1, s, l => sF (fun i => if bC ad G s l (M - (f + 1)) i = true then tN M ad G f (s ||| 2 ^ i) i else 0) 0 M
def ad1 (p i : Nat) : Option Nat → Option Nat
  | none => none
  | some r => some (if i = p then r else r + 1)
def tL (M : Nat) (ad : Nat → Bool) (G : Nat → Nat) : Nat → Nat → Nat → Option Nat
  | 0, _, _ => some 0
  | f + 1, s, l => mF (fun i => if bC ad G s l (M - (f + 1)) i = true then ad1 (M - (f + 1)) i (tL M ad G f (s ||| 2 ^ i) i) else none) 0 M
def fq (M : Nat) (ad : Nat → Bool) (G : Nat → Nat) (f s l i : Nat) : Bool := bC ad G s l (M - (f + 1)) i && decide (0 < tN M ad G f (s ||| 2 ^ i) i)
def fL (M : Nat) (ad : Nat → Bool) (G : Nat → Nat) : Nat → Nat → Nat → (Nat → Nat) → Nat → Nat
  | 0, _, _, L => L
  | f + 1, s, l, L => fL M ad G f (s ||| 2 ^ fi (fq M ad G f s l) 0 M) (fi (fq M ad G f s l) 0 M) (upB L (M - (f + 1)) (fi (fq M ad G f s l) 0 M))
def mvp (L : Nat → Nat) (q : Nat) : Bool := !decide (L q = q)
abbrev oA : Type := Nat × Nat × (Nat → Nat)
def lf (M : Nat) (L : Nat → Nat) (a : oA) : oA := (a.1 + 1, mn a.2.1 (cnt (mvp L) M), if a.1 = 0 then L else a.2.2)
def dfs (M : Nat) (ad : Nat → Bool) (G : Nat → Nat) : Nat → Nat → Nat → (Nat → Nat) → oA → oA
  | 0, _, _, L, a => lf M L a
  | f + 1, s, l, L, a => itf (fun i a => if bC ad G s l (M - (f + 1)) i = true then dfs M ad G f (s ||| 2 ^ i) i (upB L (M - (f + 1)) i) a else a) 0 M a
def mm (m k : Nat) : Option Nat → Nat
  | none => m
  | some r => mn m (k + r)
theorem mm_o (m k : Nat) (a b : Option Nat) : mm (mm m k a) k b = mm m k (omin a b) := by
  cases a with
  | none => rfl
  | some a =>
    cases b with
    | none => rfl
    | some b =>
      show mn (mn m (k + a)) (k + b) = mn m (k + mn a b)
      rw [mn_min, mn_min, mn_min, mn_min]
      omega
theorem mm_1 (m k p j : Nat) (o : Option Nat) : mm m (k + (if j = p then 0 else 1)) o = mm m k (ad1 p j o) := by
  cases o with
  | none => rfl
  | some r =>
    show mn m (k + (if j = p then 0 else 1) + r) = mn m (k + (if j = p then r else r + 1))
    congr 1
    split <;> omega
theorem mvp_cnt (L : Nat → Nat) (p j : Nat) : cnt (mvp (upB L p j)) (p + 1) = cnt (mvp L) p + (if j = p then 0 else 1) := by
  show cnt (mvp (upB L p j)) p + (if mvp (upB L p j) p = true then 1 else 0) = _
  have e1 : cnt (mvp (upB L p j)) p = cnt (mvp L) p := cnt_c p (fun i hi => by
    unfold mvp
    rw [upB_n _ (by omega)])
  rw [e1]
  congr 1
  unfold mvp
  rw [upB_s]
  by_cases c : j = p
  · rw [if_pos c, decide_eq_true c]; rfl
  · rw [if_neg c, decide_eq_false c]; rfl
theorem dfs_eq (M : Nat) (ad : Nat → Bool) (G : Nat → Nat) : ∀ f s l L c m F, f ≤ M → dfs M ad G f s l L (c, m, F) = (c + tN M ad G f s l, mm m (cnt (mvp L) (M - f)) (tL M ad G f s l), if c = 0 then (if tN M ad G f s l = 0 then F else fL M ad G f s l L) else F)
  | 0, s, l, L, c, m, F, _ => rfl
  | f + 1, s, l, L, c, m, F, hf => by
    have ih := dfs_eq M ad G f
    have inner : ∀ m' j c m F, itf (fun i a => if bC ad G s l (M - (f + 1)) i = true then dfs M ad G f (s ||| 2 ^ i) i (upB L (M - (f + 1)) i) a else a) j m' (c, m, F) = (c + sF (fun i => if bC ad G s l (M - (f + 1)) i = true then tN M ad G f (s ||| 2 ^ i) i else 0) j m', mm m (cnt (mvp L) (M - (f + 1))) (mF (fun i => if bC ad G s l (M - (f + 1)) i = true then ad1 (M - (f + 1)) i (tL M ad G f (s ||| 2 ^ i) i) else none) j m'), if c = 0 then (if sF (fun i => if bC ad G s l (M - (f + 1)) i = true then tN M ad G f (s ||| 2 ^ i) i else 0) j m' = 0 then F else fL M ad G f (s ||| 2 ^ fi (fq M ad G f s l) j m') (fi (fq M ad G f s l) j m') (upB L (M - (f + 1)) (fi (fq M ad G f s l) j m'))) else F) := by
      intro m'
      induction m' with
      | zero =>
        intro j c m F
        rw [itf_0, sF_0, mF_0, if_pos (show 0 = 0 from rfl), ite_self]
        rfl
      | succ m' ih2 =>
        intro j c m F
        rw [itf_s, sF_s, mF_s, fi_s]
        cases hb : bC ad G s l (M - (f + 1)) j with
        | false =>
          have hq : fq M ad G f s l j = false := by unfold fq; rw [hb]; rfl
          rw [hq, if_neg nft, if_neg nft, if_neg nft, if_neg nft, ih2, Nat.zero_add]
          rfl
        | true =>
          rw [if_pos ptt, if_pos ptt, if_pos ptt, ih _ _ _ _ _ _ (by omega), show M - f = M - (f + 1) + 1 by omega, mvp_cnt, mm_1, ih2, mm_o, Nat.add_assoc]
          have hq : fq M ad G f s l j = decide (0 < tN M ad G f (s ||| 2 ^ j) j) := by unfold fq; rw [hb]; rfl
          rw [hq]
          generalize tN M ad G f (s ||| 2 ^ j) j = t
          generalize sF (fun i => if bC ad G s l (M - (f + 1)) i = true then tN M ad G f (s ||| 2 ^ i) i else 0) (j + 1) m' = u
          congr 2
          by_cases c0 : c = 0
          · by_cases t0 : t = 0
            · rw [if_pos (show c + t = 0 by omega), if_pos c0, if_pos c0, if_pos t0, t0, Nat.zero_add, decide_eq_false (by omega), if_neg nft]
            · rw [if_neg (show ¬ c + t = 0 by omega), if_pos c0, if_pos c0, if_neg t0, if_neg (show ¬ t + u = 0 by omega), decide_eq_true (by omega), if_pos ptt]
          · rw [if_neg (show ¬ c + t = 0 by omega), if_neg c0, if_neg c0]
    exact inner M 0 c m F
theorem tN_le {M : Nat} (hM : M ≤ 8) (ad : Nat → Bool) (G : Nat → Nat) : ∀ f s l, tN M ad G f s l ≤ 8 ^ f
  | 0, s, l => Nat.le_refl 1
  | f + 1, s, l => by
    have h := sF_le (fun i => if bC ad G s l (M - (f + 1)) i = true then tN M ad G f (s ||| 2 ^ i) i else 0) (8 ^ f) (fun i => by
      show (if bC ad G s l (M - (f + 1)) i = true then tN M ad G f (s ||| 2 ^ i) i else 0) ≤ 8 ^ f
      split
      · exact tN_le hM ad G f _ _
      · exact Nat.zero_le _) M 0
    have e : 8 ^ (f + 1) = 8 * 8 ^ f := by rw [Nat.pow_succ, Nat.mul_comm]
    have h2 : M * 8 ^ f ≤ 8 * 8 ^ f := Nat.mul_le_mul_right _ hM
    show sF _ 0 M ≤ 8 ^ (f + 1)
    omega
theorem tL_none (M : Nat) (ad : Nat → Bool) (G : Nat → Nat) : ∀ f s l, tL M ad G f s l = none ↔ tN M ad G f s l = 0
  | 0, s, l => ⟨fun h => by (cases h), fun h => by (cases h)⟩
  | f + 1, s, l => mF_none (fun i => by
      cases hb : bC ad G s l (M - (f + 1)) i with
      | false => rw [if_neg nft, if_neg nft]; exact ⟨fun _ => rfl, fun _ => rfl⟩
      | true =>
        rw [if_pos ptt, if_pos ptt]
        have ih := tL_none M ad G f (s ||| 2 ^ i) i
        rw [← ih]
        cases tL M ad G f (s ||| 2 ^ i) i with
        | none => exact ⟨fun _ => rfl, fun _ => rfl⟩
        | some r => exact ⟨fun h => by (cases h), fun h => by (cases h)⟩) M 0
theorem tL_le (M : Nat) (ad : Nat → Bool) (G : Nat → Nat) : ∀ f s l r, tL M ad G f s l = some r → r ≤ f
  | 0, s, l, r, h => by
    have h : some 0 = some r := h
    cases h
    exact Nat.le_refl _
  | f + 1, s, l, r, h => mF_le _ (f + 1) (fun i r e => by
      cases hb : bC ad G s l (M - (f + 1)) i with
      | false => rw [hb, if_neg nft] at e; cases e
      | true =>
        rw [hb, if_pos ptt] at e
        cases e2 : tL M ad G f (s ||| 2 ^ i) i with
        | none => rw [e2] at e; cases e
        | some q =>
          rw [e2] at e
          have e : some (if i = M - (f + 1) then q else q + 1) = some r := e
          have := tL_le M ad G f _ _ q e2
          cases e
          split <;> omega) M 0 r h
theorem fL_low (M : Nat) (ad : Nat → Bool) (G : Nat → Nat) : ∀ f s l L q, f ≤ M → q < M - f → fL M ad G f s l L q = L q
  | 0, s, l, L, q, _, _ => rfl
  | f + 1, s, l, L, q, h, hq => by
    show fL M ad G f _ _ (upB L (M - (f + 1)) _) q = L q
    rw [fL_low M ad G f _ _ _ q (by omega) (by omega), upB_n _ (by omega)]
