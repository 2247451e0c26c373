/-! ===== read: a text tells a street ===== -/
theorem itm_r {T : Nat → Nat} {tl : Nat} {W : Nat → Nat} {n m1 m2 a v1 v2 e : Nat} (ha : a ≤ tl) (h : itm T tl W n m1 m2 a = Sum.inr (v1, v2, e)) : a < e ∧ e ≤ tl ∧ v1 ≤ m1 ∧ v2 ≤ m2 := by
  obtain ⟨n1, n1'⟩ := tkN_in T ha
  obtain ⟨n2, n2'⟩ := tkN_in T n1
  obtain ⟨n3, n3'⟩ := tkN_in T n2
  have e0 := tkE_in T ha
  have e1 := tkE_in T n1
  have e2 := tkE_in T n2
  have e3 := tkE_in T n3
  unfold itm at h
  cases cw : wok T tl W n a with
  | false => rw [cw, if_neg nft] at h; cases h
  | true =>
    rw [cw, if_pos ptt] at h
    cases c1 : nbo T tl m1 (tkN T tl a) with
    | false => rw [c1, if_neg nft] at h; cases h
    | true =>
      rw [c1, if_pos ptt] at h
      cases c2 : nbo T tl m2 (tkN T tl (tkN T tl a)) with
      | false => rw [c2, if_neg nft] at h; cases h
      | true =>
        rw [c2, if_pos ptt] at h
        by_cases c3 : kd T tl (tkN T tl (tkN T tl (tkN T tl a))) = 3
        · rw [if_pos c3] at h
          have b1 := (nbo_t c1).2.2
          have b2 := (nbo_t c2).2.2
          have b3 := e3.2.2 (by omega)
          cases h
          exact ⟨by omega, e3.2.1, b1, b2⟩
        · rw [if_neg c3] at h; cases h
theorem itm_l {T : Nat → Nat} {tl : Nat} {W : Nat → Nat} {n m1 m2 a x : Nat} (ha : a ≤ tl) (h : itm T tl W n m1 m2 a = Sum.inl x) : x ≤ tl := by
  obtain ⟨n1, n1'⟩ := tkN_in T ha
  obtain ⟨n2, n2'⟩ := tkN_in T n1
  obtain ⟨n3, n3'⟩ := tkN_in T n2
  unfold itm at h
  cases cw : wok T tl W n a with
  | false => rw [cw, if_neg nft] at h; cases h; exact ha
  | true =>
    rw [cw, if_pos ptt] at h
    cases c1 : nbo T tl m1 (tkN T tl a) with
    | false => rw [c1, if_neg nft] at h; cases h; exact n1
    | true =>
      rw [c1, if_pos ptt] at h
      cases c2 : nbo T tl m2 (tkN T tl (tkN T tl a)) with
      | false => rw [c2, if_neg nft] at h; cases h; exact n2
      | true =>
        rw [c2, if_pos ptt] at h
        by_cases c3 : kd T tl (tkN T tl (tkN T tl (tkN T tl a))) = 3
        · rw [if_pos c3] at h; cases h
        · rw [if_neg c3] at h; cases h; exact n3
/-- one house more -/
def plM (F : Nat → Nat → Nat → Sum Nat ((Nat → Nat) × Nat)) : Sum Nat (Nat × Nat × Nat) → Sum Nat ((Nat → Nat) × Nat)
  | Sum.inl x => Sum.inl x
  | Sum.inr (v1, v2, e) => F v1 v2 e
def pl (T : Nat → Nat) (tl : Nat) : Nat → Nat → (Nat → Nat) → Nat → Sum Nat ((Nat → Nat) × Nat)
  | 0, _, _, _ => Sum.inl 0
  | f + 1, i, R, n => if kd T tl (sk T tl i) = 0 then Sum.inr (R, n) else plM (fun v1 v2 e => pl T tl f e (upB R v1 v2) (n + 1)) (itm T tl wH 5 7 300 (sk T tl i))
theorem pl_1 (T : Nat → Nat) (tl f i : Nat) (R : Nat → Nat) (n : Nat) : pl T tl (f + 1) i R n = if kd T tl (sk T tl i) = 0 then Sum.inr (R, n) else plM (fun v1 v2 e => pl T tl f e (upB R v1 v2) (n + 1)) (itm T tl wH 5 7 300 (sk T tl i)) := rfl
def prM (T : Nat → Nat) (tl : Nat) : Sum Nat (Nat × Nat × Nat) → Sum Nat (Nat × Nat × (Nat → Nat) × Nat)
  | Sum.inl x => Sum.inl x
  | Sum.inr (k, n, e) => match pl T tl (tl + 1) e (fun _ => 0) 1 with
    | Sum.inl x => Sum.inl x
    | Sum.inr (R, m) => Sum.inr (k, n, R, m)
def prs (T : Nat → Nat) (tl : Nat) : Sum Nat (Nat × Nat × (Nat → Nat) × Nat) := prM T tl (itm T tl wS 6 5 9 (sk T tl 0))
/-! ===== the class's loop over the houses ===== -/
def cEnd (S1 : jS) (law : Int32) : Sum Nat ((Nat → Nat) × Nat) → Prop
  | Sum.inl x => x ≤ 150 ∧ S1.1 18 4 = nI x
  | Sum.inr (R, n) => S1.1 18 4 = -1 ∧ S1.1 18 3 = nI n ∧ S1.1 18 2 = law ∧ ∀ h, h < 8 → S1.1 19 h = nI (R h) ∧ R h ≤ 300
theorem X7_p46 {g : Int32 → jS → Option jS} {S S1 : jS} {K c : Nat} (hc : c < 150) (h4 : S.1 18 4 = -1) (e1 : f_X7_scan S = some S1) (h7 : S1.1 18 7 = nI K) (hK : K ≤ 4) : f_X7_parse_46 g f_X7_parse_72 f_X7_parse_83 (nI c) S = if K = 0 then some S1 else jcv (f_X7_parseHouse S1) (fun S2 => g (nI (c + 1)) S2) := by
  unfold f_X7_parse_46 f_X7_parse_72
  rw [itl q150 (by omega) (by omega), if_pos hc, h4, if_pos rfl, e1, jcv_s, h7, itv q0 (by omega) (by omega), show nI c + 1 = nI (c + 1) from qadd _ 1]
theorem X7_p46_f {g : Int32 → jS → Option jS} {S : jS} {x : Nat} (y : Int32) (hx : x ≤ 150) (h4 : S.1 18 4 = nI x) : f_X7_parse_46 g f_X7_parse_72 f_X7_parse_83 y S = some S := by
  unfold f_X7_parse_46 f_X7_parse_83
  rw [h4, if_neg (nI_m1 (by omega)), ite_self]
theorem X7_loop {T : Nat → Nat} {tl : Nat} (law : Int32) : ∀ f c i R n N S, txt S T tl → i ≤ tl → tl - i < f → c + (tl - i) < 150 → f < N → S.1 18 4 = -1 → S.1 18 6 = nI i → S.1 18 3 = nI n → S.1 18 2 = law → (∀ h, h < 8 → S.1 19 h = nI (R h) ∧ R h ≤ 300) → ∃ S1, jloop (α := Int32 × jS) (fun g q => f_X7_parse_46 (fun x1 S => g (x1, S)) f_X7_parse_72 f_X7_parse_83 q.1 q.2) N (nI c, S) = some S1 ∧ Ev S S1 ∧ cEnd S1 law (pl T tl f i R n) := by
  intro f
  induction f with
  | zero => intro c i R n N S _ _ h; omega
  | succ f ih =>
    intro c i R n N S hx hi hf hc hN h4 h6 h3 h2 h19
    cases N with
    | zero => omega
    | succ N =>
      obtain ⟨S1, e1, r1, a4, a6, a7, a8, a9⟩ := X7_scan hx hi h6
      have t1 := hx.1
      have hx1 := txt_ev hx r1.ev
      obtain ⟨s1, s2⟩ := sk_in T hi
      have k4 := kd_4 T tl (sk T tl i)
      rw [pl_1, jloop_1]
      dsimp only
      rw [X7_p46 (by omega) h4 e1 a7 k4]
      generalize sk T tl i = a at *
      have c3 : S1.1 18 3 = nI n := by rw [r1.2.2 3 (by omega)]; exact h3
      have c2 : S1.1 18 2 = law := by rw [r1.2.2 2 (by omega)]; exact h2
      have c19 : S1.1 19 = S.1 19 := r1.2.1 19 (by omega)
      by_cases k0 : kd T tl a = 0
      · rw [if_pos k0, if_pos k0]
        exact ⟨S1, rfl, r1.ev, a4.trans h4, c3, c2, fun h hh => by rw [c19]; exact h19 h hh⟩
      · rw [if_neg k0, if_neg k0]
        obtain ⟨S2, e2, ev2, o2⟩ := X7_parseHouse hx1 s2 ⟨a6, a7, a8⟩ (a4.trans h4)
        rw [e2, jcv_s]
        cases hI : itm T tl wH 5 7 300 a with
        | inl x =>
          rw [hI] at o2
          have hxl := itm_l s2 hI
          refine ⟨S2, ?_, r1.ev.tr ev2, by omega, o2⟩
          cases N with
          | zero => omega
          | succ N =>
            rw [jloop_1]
            exact X7_p46_f _ (by omega) o2
        | inr q =>
          obtain ⟨v1, v2, e⟩ := q
          rw [hI] at o2
          obtain ⟨o4, o6, o3, oF⟩ := o2
          obtain ⟨b1, b2, b3, b4⟩ := itm_r s2 hI
          obtain ⟨p2, p19⟩ := oF b3
          obtain ⟨S3, e3, ev3, o5⟩ := ih (c + 1) e (upB R v1 v2) (n + 1) N S2 (txt_ev hx1 ev2) b2 (by omega) (by omega) (by omega) o4 o6 (by rw [o3, c3]; exact qadd _ 1) (p2.trans c2) (fun h hh => by
            rw [p19, c19, upd_1]
            unfold upB
            by_cases w : h = v1
            · rw [if_pos w, if_pos w]
              exact ⟨rfl, b4⟩
            · rw [if_neg w, if_neg w]
              exact h19 h hh)
          exact ⟨S3, e3, (r1.ev.tr ev2).tr ev3, o5⟩
def cRes (S1 : jS) : Sum Nat (Nat × Nat × (Nat → Nat) × Nat) → Prop
  | Sum.inl x => x ≤ 150 ∧ S1.1 18 4 = nI x
  | Sum.inr (k, n, R, m) => S1.1 18 4 = -1 ∧ S1.1 18 3 = nI m ∧ S1.1 18 2 = nI (10 * k + n) ∧ (∀ h, h < 8 → S1.1 19 h = nI (R h) ∧ R h ≤ 300) ∧ k < 6 ∧ n < 10
theorem X7_parse {S : jS} {T : Nat → Nat} {tl : Nat} (hx : txt S T tl) : ∃ S1, f_X7_parse S = some S1 ∧ Ev S S1 ∧ cRes S1 (prs T tl) := by
  have t1 := hx.1
  unfold f_X7_parse f_X7_parse_e
  rw [jpt_s, jpt_s, jpt_s]
  have ev0 : Ev S (jsI (jsI (jsI S 18 4 (-1)) 18 3 0) 18 6 0) := (Ev.F S 18 4 _ (by omega)).tr ((Ev.F _ 18 3 _ (by omega)).tr (Ev.F _ 18 6 _ (by omega)))
  have pre : ∃ S', lp_X7_parse_17 f_X7_parse_36 0 (jsI (jsI (jsI S 18 4 (-1)) 18 3 0) 18 6 0) = f_X7_parse_36 S' ∧ Ev S S' ∧ S'.1 18 4 = -1 ∧ S'.1 18 3 = 0 ∧ S'.1 18 6 = 0 ∧ ∀ h, h < 8 → S'.1 19 h = 0 := by
    unfold lp_X7_parse_17
    refine jloop_i (fun i a => ∃ S', a = (nI i, S') ∧ Ev S S' ∧ S'.1 18 4 = -1 ∧ S'.1 18 3 = 0 ∧ S'.1 18 6 = 0 ∧ ∀ h, h < i → S'.1 19 h = 0) (fun r => ∃ S', r = f_X7_parse_36 S' ∧ Ev S S' ∧ S'.1 18 4 = -1 ∧ S'.1 18 3 = 0 ∧ S'.1 18 6 = 0 ∧ ∀ h, h < 8 → S'.1 19 h = 0) 8 (by omega) ?_ ?_ ⟨_, rfl, ev0, rfl, rfl, rfl, fun h hh => absurd hh (Nat.not_lt_zero h)⟩
    · rintro i hi _ ⟨S', rfl, ev, e4, e3, e6, eh⟩
      refine ⟨_, ⟨jsI S' 19 i 0, rfl, ev.tr (Ev.I S' 19 _ _ rfl (by omega) (by omega) (by omega)), e4, e3, e6, fun h hh => ?_⟩, fun g => ?_⟩
      · show upd (S'.1 19) i 0 h = 0
        rw [upd_1]
        by_cases e : h = i
        · rw [if_pos e]
        · rw [if_neg e]
          exact eh h (by omega)
      · dsimp only
        unfold f_X7_parse_17
        rw [itl q8 (by omega) (by omega), if_pos hi, jst_nI (by omega) (by omega), show nI i + 1 = nI (i + 1) from qadd _ 1]
    · rintro _ ⟨S', rfl, ev, e4, e3, e6, eh⟩
      refine ⟨_, ⟨S', rfl, ev, e4, e3, e6, eh⟩, fun g => ?_⟩
      dsimp only
      unfold f_X7_parse_17
      rw [if_neg (by decide)]
  obtain ⟨S', e0, ev, e4, e3, e6, eh⟩ := pre
  rw [e0]
  have hx' := txt_ev hx ev
  obtain ⟨S1, g1, r1, a4, a6, a7, a8, a9⟩ := X7_scan hx' (Nat.zero_le tl) e6
  have hx1 := txt_ev hx' r1.ev
  obtain ⟨s1, s2⟩ := sk_in T (Nat.zero_le tl)
  obtain ⟨S2, g2, ev2, o2⟩ := X7_parseStreet hx1 s2 ⟨a6, a7, a8⟩ (a4.trans e4)
  unfold f_X7_parse_36
  rw [g1, jcv_s, g2, jcv_s]
  unfold lp_X7_parse_46 prs
  cases hI : itm T tl wS 6 5 9 (sk T tl 0) with
  | inl x =>
    rw [hI] at o2
    have hxl := itm_l s2 hI
    refine ⟨S2, ?_, ev.tr (r1.ev.tr ev2), by omega, o2⟩
    rw [show jN = (jN - 1) + 1 from rfl, jloop_1]
    exact X7_p46_f _ (by omega) o2
  | inr q =>
    obtain ⟨k, n, e⟩ := q
    rw [hI] at o2
    obtain ⟨o4, o6, o3, oF1, oF2⟩ := o2
    obtain ⟨b1, b2, b3, b4⟩ := itm_r s2 hI
    obtain ⟨S3, g3, ev3, o5⟩ := X7_loop (T := T) (tl := tl) (nI (10 * k + n)) (tl + 1) 0 e (fun _ => 0) 1 jN S2 (txt_ev hx1 ev2) b2 (by omega) (by omega) (jN_big (by omega)) o4 o6 (by rw [o3, r1.2.2 3 (by omega), e3]; rfl) oF1 (fun h hh => by
      rw [oF2, r1.2.1 19 (by omega), eh h hh]
      exact ⟨rfl, Nat.zero_le _⟩)
    refine ⟨S3, g3, ev.tr (r1.ev.tr (ev2.tr ev3)), ?_⟩
    unfold prM
    dsimp only
    revert o5
    cases pl T tl (tl + 1) e (fun _ => 0) 1 with
    | inl x => exact fun o => o
    | inr q =>
      obtain ⟨R, m⟩ := q
      rintro ⟨w1, w2, w3, w4⟩
      exact ⟨w1, w2, w3, w4, by omega, by omega⟩
/-! ===== the model's loop over the houses ===== -/
theorem X12_read_66 (x : Int32) (S : jS) : f_X12_read_66 x S = some (x, jsR S 42 (fun j => if j < 69 then S.1 54 j else S.1 42 j)) := by
  unfold f_X12_read_66 lp_X12_read_68
  have e0 : (fun j => if j < 0 then S.1 54 j else S.1 42 j) = S.1 42 := by
    funext j
    exact if_neg (Nat.not_lt_zero j)
  refine jloop_u (fun i => (x, nI i, jsR S 42 (fun j => if j < i then S.1 54 j else S.1 42 j))) 69 (by show (x, 0, S) = (x, nI 0, jsR S 42 (fun j => if j < 0 then S.1 54 j else S.1 42 j)); rw [e0, jsR_self]; rfl) (by omega) (fun i hi g => ?_) (fun g => ?_)
  · dsimp only
    unfold f_X12_read_68
    rw [itl (show (69 : Int32) = nI 69 from rfl) (by omega) (by omega), if_pos hi, jld_nI (by omega) (by omega), jst_nI (by omega) (by omega), jsI_d, jsR_R, jsR_s, show nI i + 1 = nI (i + 1) from qadd _ 1]
    congr 4
    funext j
    rw [upd_1]
    by_cases h : j = i
    · rw [if_pos h, if_pos (by omega), h]
      rfl
    · rw [if_neg h]
      by_cases h2 : j < i
      · rw [if_pos h2, if_pos (by omega)]
      · rw [if_neg h2, if_neg (by omega)]
  · dsimp only
    unfold f_X12_read_68 f_X12_read_92
    rw [if_neg (by decide)]
def mEnd (S : jS) (r : Option (Int32 × jS)) : Sum Nat ((Nat → Nat) × Nat) → Prop
  | Sum.inl x => ∃ S1, r = some (-10 - nI x, S1) ∧ Ev S S1
  | Sum.inr (R, n) => ∃ S1, r = f_X12_read_66 (nI n) S1 ∧ Ev S S1 ∧ (∀ h, h < 8 → S1.1 54 h = nI (R h)) ∧ ∀ j, 8 ≤ j → S1.1 54 j = S.1 54 j
theorem mEnd_ev {S S0 : jS} {r : Option (Int32 × jS)} {o : Sum Nat ((Nat → Nat) × Nat)} (h : mEnd S r o) (ev : Ev S0 S) (e54 : ∀ j, 8 ≤ j → S.1 54 j = S0.1 54 j) : mEnd S0 r o := by
  cases o with
  | inl x =>
    obtain ⟨S1, a, b⟩ := h
    exact ⟨S1, a, ev.tr b⟩
  | inr q =>
    obtain ⟨R, n⟩ := q
    obtain ⟨S1, a, b, c, d⟩ := h
    exact ⟨S1, a, ev.tr b, c, fun j hj => (d j hj).trans (e54 j hj)⟩
theorem X12_rloop {T : Nat → Nat} {tl : Nat} : ∀ f i R n N S, txt S T tl → i ≤ tl → tl - i < f → f < N → lkd S T tl (sk T tl i) → (∀ h, h < 8 → S.1 54 h = nI (R h)) → mEnd S (jloop (α := Int32 × jS) (fun g q => f_X12_read_26 (fun x1 S => g (x1, S)) f_X12_read_48 f_X12_read_66 q.1 q.2) N (nI n, S)) (pl T tl f i R n) := by
  intro f
  induction f with
  | zero => intro i R n N S _ _ h; omega
  | succ f ih =>
    intro i R n N S hx hi hf hN hk h54
    cases N with
    | zero => omega
    | succ N =>
      have t1 := hx.1
      obtain ⟨s1, s2⟩ := sk_in T hi
      have k4 := kdM_4 T tl (sk T tl i)
      have ih2 := fun i R n S => ih i R n N S
      rw [pl_1, jloop_1]
      generalize jloop (α := Int32 × jS) (fun g q => f_X12_read_26 (fun x1 S => g (x1, S)) f_X12_read_48 f_X12_read_66 q.1 q.2) N = gg at ih2 ⊢
      dsimp only
      unfold f_X12_read_26 f_X12_read_48
      rw [hk.2.2.1, itv q0 (by omega) (by omega)]
      simp only [kdM_i T tl (sk T tl i) (K := 0) (by omega) (by omega)]
      generalize sk T tl i = a at *
      by_cases k0 : kd T tl a = 0
      · rw [if_pos k0, if_pos k0]
        exact ⟨S, rfl, Ev.rfl' S, h54, fun j _ => rfl⟩
      · obtain ⟨b, S1, e1, m1, o1⟩ := X12_takesHouse hx s2 hk
        rw [if_neg k0, if_neg k0, e1, jcl_s, ite_b]
        cases hI : itm T tl wH 5 7 300 a with
        | inl x =>
          rw [hI] at o1
          obtain ⟨o19, o21⟩ := o1
          rw [o19]
          cases b with
          | false =>
            rw [if_neg nft]
            exact ⟨S1, rfl, m1.ev⟩
          | true =>
            rw [if_pos ptt, if_neg (o21 rfl)]
            exact ⟨S1, rfl, m1.ev⟩
        | inr q =>
          obtain ⟨v1, v2, e⟩ := q
          rw [hI] at o1
          obtain ⟨rfl, o21, ⟨a4, a4l, l4, eE⟩, p54⟩ := o1
          obtain ⟨b1, b2, b3, b4⟩ := itm_r s2 hI
          have hx1 := txt_ev hx m1.ev
          obtain ⟨S2, g2, k2, l2⟩ := X12_goBehind hx1 a4l l4
          have l2 : lkd S2 T tl (sk T tl e) := by
            rw [← eE]
            exact l2
          rw [if_pos ptt, if_pos o21, g2, jcv_s, show nI n + 1 = nI (n + 1) from qadd _ 1]
          have e54 : S2.1 54 = upd (S.1 54) v1 (nI v2) := by rw [k2.2.1 54 (by omega), p54]
          refine mEnd_ev (ih2 e (upB R v1 v2) (n + 1) S2 (txt_ev hx1 k2.ev) b2 (by omega) (by omega) l2 (fun h hh => ?_)) (m1.ev.tr k2.ev) (fun j hj => ?_)
          · rw [e54, upd_1]
            unfold upB
            by_cases w : h = v1
            · rw [if_pos w, if_pos w]
            · rw [if_neg w, if_neg w]
              exact h54 h hh
          · rw [e54, upd_1, if_neg (by omega)]
def mRes (S : jS) (r : Option (Int32 × jS)) : Sum Nat (Nat × Nat × (Nat → Nat) × Nat) → Prop
  | Sum.inl x => ∃ S1, r = some (-10 - nI x, S1) ∧ Ev S S1
  | Sum.inr (k, n, R, m) => ∃ S1, r = some (nI m, jsR S1 42 (fun j => if j < 69 then S1.1 54 j else S1.1 42 j)) ∧ Ev S S1 ∧ (∀ h, h < 8 → S1.1 54 h = nI (R h)) ∧ S1.1 54 8 = nI k ∧ S1.1 54 9 = nI n ∧ ∀ j, 10 ≤ j → j < 69 → S1.1 54 j = 0
theorem X12_read {S : jS} {T : Nat → Nat} {tl : Nat} (hx : txt S T tl) : mRes S (f_X12_read S) (prs T tl) := by
  have t1 := hx.1
  obtain ⟨S1, e1, l1, k1⟩ := X12_lookAt hx (Nat.zero_le tl)
  have e1 : f_X12_lookAt 0 S = some S1 := e1
  have hx1 := txt_ev hx l1.ev
  obtain ⟨s1, s2⟩ := sk_in T (Nat.zero_le tl)
  obtain ⟨b, S2, e2, m2, o2⟩ := X12_takesFirst hx1 s2 k1
  unfold f_X12_read f_X12_read_e prs
  rw [e1, jcv_s, e2, jcl_s, ite_b]
  cases hI : itm T tl wS 6 5 9 (sk T tl 0) with
  | inl x =>
    rw [hI] at o2
    obtain ⟨rfl, o19⟩ := o2
    rw [if_neg nft, o19]
    exact ⟨S2, rfl, l1.ev.tr m2.ev⟩
  | inr q =>
    obtain ⟨k, n, e⟩ := q
    rw [hI] at o2
    obtain ⟨rfl, ⟨a4, a4l, l4, eE⟩, p54⟩ := o2
    obtain ⟨b1, b2, b3, b4⟩ := itm_r s2 hI
    have hx2 := txt_ev hx1 m2.ev
    obtain ⟨S3, g3, k3, l3⟩ := X12_goBehind hx2 a4l l4
    have l3 : lkd S3 T tl (sk T tl e) := by
      rw [← eE]
      exact l3
    have e54 : S3.1 54 = upd (upd (zr 69 (S1.1 54)) 8 (nI k)) 9 (nI n) := by rw [k3.2.1 54 (by omega), p54]
    have z54 : ∀ j, j ≠ 8 → j ≠ 9 → j < 69 → S3.1 54 j = 0 := fun j h1 h2 h3 => by
      rw [e54, upd_n _ _ h2, upd_n _ _ h1]
      exact if_pos h3
    rw [if_pos ptt, g3, jcv_s]
    unfold lp_X12_read_26
    have key := X12_rloop (T := T) (tl := tl) (tl + 1) e (fun _ => 0) 1 jN S3 (txt_ev hx2 k3.ev) b2 (by omega) (jN_big (by omega)) l3 (fun h hh => z54 h (by omega) (by omega) (by omega))
    unfold prM
    dsimp only
    revert key
    cases pl T tl (tl + 1) e (fun _ => 0) 1 with
    | inl x =>
      rintro ⟨S4, q1, q2⟩
      exact ⟨S4, q1, ((l1.ev.tr m2.ev).tr k3.ev).tr q2⟩
    | inr q =>
      obtain ⟨R, m⟩ := q
      rintro ⟨S4, q1, q2, q3, q4⟩
      refine ⟨S4, q1.trans (X12_read_66 _ _), ((l1.ev.tr m2.ev).tr k3.ev).tr q2, q3, ?_, ?_, fun j h1 h2 => ?_⟩
      · rw [q4 8 (by omega), e54]
        rfl
      · rw [q4 9 (by omega), e54]
        rfl
      · rw [q4 j (by omega)]
        exact z54 j (by omega) (by omega) h2
/-! ===== read ===== -/
theorem Ev.R42 {S S' : jS} (h : Ev S S') (f : Nat → Int32) : Ev (jsR S 42 f) (jsR S' 42 f) := by
  refine ⟨h.1, fun k hk => ?_, h.2.2.1, h.2.2.2.1, h.2.2.2.2.1, h.2.2.2.2.2.1, h.2.2.2.2.2.2⟩
  by_cases c : k = 42
  · rw [c, jsR_s, jsR_s]
  · rw [jsR_n _ _ c, jsR_n _ _ c]
    exact h.2.1 k hk
def rdR (B R : Nat → Nat) (k n : Nat) : Nat → Nat := fun j => if j < 8 then R j else begB B k n j
theorem rdR_h (B R : Nat → Nat) (k n : Nat) {j : Nat} (h : 8 ≤ j) : rdR B R k n j = begB B k n j := if_neg (by omega)
theorem op_read {S : jS} (h : GG S) : O2 (f_X11_read S) f_X12_read := by
  obtain ⟨B, T, tl, hR⟩ := id h
  obtain ⟨-, -, -, -, -, -, -, -, hx⟩ := id hR
  obtain ⟨S1, e1, ev1, o1⟩ := X7_parse hx
  have hR1 := RR_ev hR ev1
  have hx1 := txt_ev hx ev1
  unfold f_X11_read f_X11_read_e
  rw [e1, jcv_s]
  cases hP : prs T tl with
  | inl x =>
    rw [hP] at o1
    have m := X12_read hx1
    rw [hP] at m
    obtain ⟨S2, e2, ev2⟩ := m
    refine O2_ev h (-10 - nI x) ⟨S1, ?_, ev1, S2, e2, ev2⟩
    have b : x ≤ 150 := o1.1
    rw [show S1.1 18 4 = nI x from o1.2, if_neg (nI_m1 (by omega))]
  | inr q =>
    obtain ⟨k, n, R, m⟩ := q
    rw [hP] at o1
    obtain ⟨o4, o3, o2, o19, hk, hn⟩ := o1
    rw [o4, if_pos rfl, o2, X10_begin, jcv_s]
    generalize hS2 : jsR (jsR S1 22 (zr 8 (S1.1 22))) 21 (bg21 (S1.1 21) (nI (10 * k + n))) = S2
    have j8 : ∀ E : jS → Option (Int32 × jS), jcp S2 19 8 0 22 8 0 8 E = E (jsR S2 22 (va_cpy (S2.1 19) (S2.1 22) 0 0 8)) := fun E => jcp_nI (a := 0) (b := 0) (c := 8) (by omega) (by omega) (by omega) (by omega)
    rw [j8]
    have ne : ∀ c, c ≠ 21 → c ≠ 22 → (jsR S2 22 (va_cpy (S2.1 19) (S2.1 22) 0 0 8)).1 c = S1.1 c := fun c h1 h2 => by
      rw [jsR_n _ _ h2, ← hS2, jsR_n _ _ h1, jsR_n _ _ h2]
    have e21 : (jsR S2 22 (va_cpy (S2.1 19) (S2.1 22) 0 0 8)).1 21 = bg21 (S1.1 21) (nI (10 * k + n)) := by
      rw [jsR_n _ _ (by omega), ← hS2, jsR_s]
    have e22 : ∀ j, j < 8 → (jsR S2 22 (va_cpy (S2.1 19) (S2.1 22) 0 0 8)).1 22 j = nI (R j) := fun j hj => by
      rw [jsR_s]
      unfold va_cpy
      rw [if_pos (by omega), show 0 + (j - 0) = j by omega, ← hS2, jsR_n _ _ (by omega), jsR_n _ _ (by omega)]
      exact (o19 j hj).1
    have es : (jsR S2 22 (va_cpy (S2.1 19) (S2.1 22) 0 0 8)).2 = S1.2 := by
      rw [← hS2]
      rfl
    generalize jsR S2 22 (va_cpy (S2.1 19) (S2.1 22) 0 0 8) = S3 at *
    have hx3 : txt S3 T tl := txt_c hx1 (by rw [ne 18 (by omega) (by omega)]) (by rw [ne 41 (by omega) (by omega)]) (ne 20 (by omega) (by omega)) (ne 53 (by omega) (by omega))
    have mm := X12_read hx3
    rw [hP] at mm
    obtain ⟨S4, e4, ev4, r1, r8, r9, r0⟩ := mm
    have h42 : S4.1 42 = S1.1 42 := by rw [ev4.2.1 42 rfl, ne 42 (by omega) (by omega)]
    refine ⟨nI m, S3, _, by rw [ne 18 (by omega) (by omega), o3], e4, rdR B R k n, T, tl, RR_ev (S := jsR S3 42 (fun j => if j < 69 then S4.1 54 j else S4.1 42 j)) ?_ (ev4.R42 _)⟩
    have vb := vB_begB B hk hn
    refine RR_mk hR1 es (fun c h1 h2 => ?_) ?_ ?_ ?_
    · rw [jsR_n _ _ h1]
      exact ne c (by omega) (by omega)
    · obtain ⟨v1, v2, v3, v4, v5, v6, v7, v8, v9⟩ := vb
      have z : ∀ j, 10 ≤ j → j < 13 → rdR B R k n j = 0 := fun j h1 h2 => by
        rw [rdR_h B R k n (by omega), begB_0 B k n (by omega) (by omega) (by omega)]
      refine ⟨fun j hj => ?_, ?_, ?_, ?_, ?_, ?_, fun i hi => ?_, fun i hi => ?_, fun i hi => ?_⟩
      · rw [show rdR B R k n j = R j from if_pos hj]
        exact (o19 j hj).2
      · rw [rdR_h B R k n (by omega)]; exact v2
      · rw [rdR_h B R k n (by omega)]; exact v3
      · rw [z 10 (by omega) (by omega)]; omega
      · rw [z 11 (by omega) (by omega)]; omega
      · rw [z 12 (by omega) (by omega)]; omega
      · rw [z 10 (by omega) (by omega)] at hi; omega
      · rw [z 11 (by omega) (by omega)] at hi; omega
      · rw [z 12 (by omega) (by omega)] at hi; omega
    · intro j hj
      rw [jsR_s]
      by_cases c69 : j < 69
      · rw [if_pos c69]
        by_cases c8 : j < 8
        · rw [show rdR B R k n j = R j from if_pos c8]
          exact r1 j c8
        · rw [rdR_h B R k n (by omega)]
          by_cases d8 : j = 8
          · rw [d8, begB_8]; exact r8
          · by_cases d9 : j = 9
            · rw [d9, begB_9]; exact r9
            · rw [begB_0 B k n d8 d9 c69, r0 j (by omega) c69]
              rfl
      · rw [if_neg c69, rdR_h B R k n (by omega), h42, hR1.2.2.1 j hj]
        unfold begB
        rw [upB_n _ (by omega), upB_n _ (by omega), if_neg c69]
    · have c21 : (jsR S3 42 (fun j => if j < 69 then S4.1 54 j else S4.1 42 j)).1 21 = bg21 (S1.1 21) (nI (10 * k + n)) := by
        rw [jsR_n _ _ (by omega)]
        exact e21
      have z : ∀ j, 10 ≤ j → j < 13 → rdR B R k n j = 0 := fun j h1 h2 => by
        rw [rdR_h B R k n (by omega), begB_0 B k n (by omega) (by omega) (by omega)]
      refine ⟨fun j hj => ?_, ?_, ?_, ?_, ?_, fun i hi => ?_, fun i hi => ?_, fun i hi => ?_⟩
      · rw [show rdR B R k n j = R j from if_pos hj]
        exact e22 j hj
      · rw [c21, rdR_h B R k n (by omega), rdR_h B R k n (by omega)]
        rfl
      · rw [c21, z 10 (by omega) (by omega)]
        rfl
      · rw [c21, z 11 (by omega) (by omega)]
        rfl
      · rw [c21, z 12 (by omega) (by omega)]
        rfl
      · rw [z 10 (by omega) (by omega)] at hi; omega
      · rw [z 11 (by omega) (by omega)] at hi; omega
      · rw [z 12 (by omega) (by omega)] at hi; omega
