/-! ===== the start ===== -/
theorem GG_st {f q h : Nat → Int32} (hf : ∀ x, x ≤ 300 → f x = nI (pt x)) (hq : ∀ x, x ≤ 300 → q x = bI (decide (0 < x) && sqr x)) (hh : ∀ x, x ≤ 300 → h x = nI (pt x)) : GG (jI0 (jsR (jsR jS0 2 q) 1 f) (jsR jS1 5 h)) :=
  ⟨fun _ => 0, fun _ => 0, 0, fun x hx => ⟨hf x hx, hq x hx, hh x hx⟩, ⟨fun j _ => Nat.zero_le _, by decide, by decide, Nat.zero_le _, Nat.zero_le _, Nat.zero_le _, fun i hi => absurd hi (Nat.not_lt_zero i), fun i hi => absurd hi (Nat.not_lt_zero i), fun i hi => absurd hi (Nat.not_lt_zero i)⟩, fun j _ => rfl, ⟨fun j _ => rfl, rfl, rfl, rfl, rfl, fun i hi => absurd hi (Nat.not_lt_zero i), fun i hi => absurd hi (Nat.not_lt_zero i), fun i hi => absurd hi (Nat.not_lt_zero i)⟩, Or.inl ⟨rfl, rfl⟩, Or.inl ⟨rfl, rfl⟩, ⟨rfl, rfl, rfl⟩, ⟨rfl, rfl⟩, Nat.zero_le _, rfl, rfl, fun j hj => absurd hj (Nat.not_lt_zero j)⟩
theorem GG_start : GG (jI0 (jsR (jsR jS0 2 (sqO 1 17 (fun _ => 0))) 1 (tbO 1 150 (fun _ => 0))) (jsR jS1 5 (tbO 1 300 (fun _ => 0)))) :=
  GG_st (fun x hx => by rw [tbO_val 150 1 _ x (by omega) hx, sdv_150 hx, Int32.zero_add]) (fun x hx => sq_tab x (by omega)) (fun x hx => by
    rw [tbO_val 300 1 _ x (by omega) hx, Int32.zero_add]
    unfold pt
    rfl)
/-! ===== the law's loop ===== -/
theorem lw_end : ∀ L, L < 257 → ∀ i, i < 261 → (Int32.ofNat L - 4 < nI i) = (L < i + 4) := by
  have h : ∀ L, L < 257 → ∀ i, i < 261 → decide (Int32.ofNat L - 4 < nI i) = decide (L < i + 4) := by decide +kernel
  intro L hL i hi
  have := h L hL i hi
  exact propext (decide_eq_decide.mp this)
theorem ite_br {α : Type} {c : Prop} {d : Decidable c} {a b r : α} (h1 : c → a = r) (h2 : ¬ c → b = r) : @ite _ c d a b = r := by
  by_cases h : c
  · rw [if_pos h]; exact h1 h
  · rw [if_neg h]; exact h2 h
theorem law_br {F1 : Option (Int32 × jS)} {F2 : jS → Option (Int32 × jS)} (o : O2 F1 F2) {K1 K2 : jS → Option Unit} (h : ∀ S, GG S → K1 S = some ()) : jcl F1 (fun v S4 => jcl (F2 S4) (fun w S8 => if v = w then K1 S8 else K2 S8)) = some () := by
  obtain ⟨r, S1, S2, e1, e2, g⟩ := o
  rw [e1, jcl_s, e2, jcl_s, if_pos rfl]
  exact h S2 g
theorem law_brL {F1 : Option (Int64 × jS)} {F2 : jS → Option (Int64 × jS)} (o : O2 F1 F2) {K1 K2 : jS → Option Unit} (h : ∀ S, GG S → K1 S = some ()) : jcl F1 (fun v S4 => jcl (F2 S4) (fun w S8 => if lg_cmp v w = 0 then K1 S8 else K2 S8)) = some () := by
  obtain ⟨r, S1, S2, e1, e2, g⟩ := o
  rw [e1, jcl_s, e2, jcl_s, if_pos (show lg_cmp r r = 0 by rw [lgz])]
  exact h S2 g
theorem jlk_nI {sc : Nat → Int32} {a L : Nat} (h : a < L) (hL : L < 2147483648) (E : Int32 → Option Unit) : jlk sc (nI a) L E = E (sc a) := by
  unfold jlk
  rw [if_pos (jb_nI h hL), nI_clamp (by omega)]
theorem law_loop {L : Nat} {sc : Nat → Int32} (hL : L ≤ 256) {S : jS} (hG : GG S) : f_L_law_e L sc S = some () := by
  unfold f_L_law_e lp_L_law_18
  refine jloop_wf (fun a => ∃ i S, i ≤ 256 ∧ a = (nI i, S) ∧ GG S) (fun a => 300 - a.1.toNatClampNeg) (fun _ => some ()) ?_ jN (0, S) ⟨0, S, by omega, rfl, hG⟩ (jN_big (by show 300 - (nI 0).toNatClampNeg < _; omega))
  rintro _ ⟨i, S, hi, rfl, hG⟩ g hg
  have nx4 : i + 4 ≤ 256 → ∀ S', GG S' → g (nI i + 4, S') = some () := fun hi4 S' hG' => by
    rw [show nI i + 4 = nI (i + 4) from qadd i 4]
    exact hg _ ⟨i + 4, S', hi4, rfl, hG'⟩ (by dsimp only; rw [qcl (by omega), qcl (by omega)]; omega)
  dsimp only
  unfold f_L_law_18
  simp only [lw_end L (by omega) i (by omega)]
  refine ite_br (fun _ => rfl) (fun hlt => ?_)
  have nx := nx4 (by omega)
  have j0 : ∀ E : Int32 → Option Unit, jlk sc (nI i) L E = E (sc i) := jlk_nI (by omega) (by omega)
  have j1 : ∀ E : Int32 → Option Unit, jlk sc (nI i + 1) L E = E (sc (i + 1)) := fun E => by
    rw [show nI i + 1 = nI (i + 1) from qadd i 1]
    exact jlk_nI (by omega) (by omega) E
  have j2 : ∀ E : Int32 → Option Unit, jlk sc (nI i + 2) L E = E (sc (i + 2)) := fun E => by
    rw [show nI i + 2 = nI (i + 2) from qadd i 2]
    exact jlk_nI (by omega) (by omega) E
  have j3 : ∀ E : Int32 → Option Unit, jlk sc (nI i + 3) L E = E (sc (i + 3)) := fun E => by
    rw [show nI i + 3 = nI (i + 3) from qadd i 3]
    exact jlk_nI (by omega) (by omega) E
  rw [j0]
  refine ite_br (fun _ => ?_) (fun _ => ?_)
  · simp only [j1, j2]; exact law_br (op_street _ _ hG) nx
  refine ite_br (fun _ => ?_) (fun _ => ?_)
  · simp only [j1, j2]; exact law_br (op_rule _ _ hG) nx
  refine ite_br (fun _ => ?_) (fun _ => ?_)
  · simp only [j1, j2]; exact law_br (op_house _ _ hG) nx
  refine ite_br (fun _ => ?_) (fun _ => ?_)
  · simp only [j1]; exact law_br (op_birthday _ hG) nx
  refine ite_br (fun _ => ?_) (fun _ => ?_)
  · simp only [j1, j2]; exact law_br (op_swap _ _ hG) nx
  refine ite_br (fun _ => ?_) (fun _ => ?_)
  · exact law_br (op_undo hG) nx
  refine ite_br (fun _ => ?_) (fun _ => ?_)
  · simp only [j1]; exact law_br (op_type _ hG) nx
  refine ite_br (fun _ => ?_) (fun _ => ?_)
  · exact law_br (op_clear hG) nx
  refine ite_br (fun _ => ?_) (fun _ => ?_)
  · exact law_br (op_read hG) nx
  refine ite_br (fun _ => ?_) (fun _ => ?_)
  · simp only [j1, j2]; exact law_br (op_of _ _ hG) nx
  refine ite_br (fun _ => ?_) (fun _ => ?_)
  · simp only [j1, j2]; exact law_br (op_may _ _ hG) nx
  refine ite_br (fun _ => ?_) (fun _ => ?_)
  · simp only [j1]; exact law_br (op_quarrels _ hG) nx
  refine ite_br (fun _ => ?_) (fun _ => ?_)
  · exact law_br (op_away hG) nx
  refine ite_br (fun _ => ?_) (fun _ => ?_)
  · simp only [j1]; exact law_br (op_orders _ hG) nx
  refine ite_br (fun _ => ?_) (fun _ => ?_)
  · exact law_br (op_moved hG) nx
  refine ite_br (fun _ => ?_) (fun _ => ?_)
  · exact law_br (op_longest hG) nx
  refine ite_br (fun _ => ?_) (fun _ => ?_)
  · simp only [j1]; exact law_br (op_greatest _ hG) nx
  refine ite_br (fun _ => ?_) (fun _ => ?_)
  · simp only [j1, j2]; exact law_br (op_chain _ _ hG) nx
  refine ite_br (fun _ => ?_) (fun _ => ?_)
  · exact law_br (op_meet hG) nx
  refine ite_br (fun _ => ?_) (fun _ => ?_)
  · simp only [j1]; exact law_br (op_next _ hG) nx
  refine ite_br (fun _ => ?_) (fun _ => ?_)
  · simp only [j1, j2]; exact law_br (op_reading _ _ hG) nx
  refine ite_br (fun _ => ?_) (fun _ => ?_)
  · simp only [j1]; exact law_br (op_who _ hG) nx
  refine ite_br (fun _ => ?_) (fun _ => ?_)
  · exact law_br (op_tryNext hG) nx
  refine ite_br (fun _ => ?_) (fun _ => ?_)
  · simp only [j1, j2, j3]; exact law_br (op_note _ _ _ hG) nx
  refine ite_br (fun _ => ?_) (fun _ => ?_)
  · simp only [j1]; exact law_br (op_laws _ hG) nx
  refine ite_br (fun _ => ?_) (fun _ => ?_)
  · simp only [j1]; exact law_br (op_forget _ hG) nx
  refine ite_br (fun _ => ?_) (fun _ => ?_)
  · simp only [j1]; exact law_br (op_split _ hG) nx
  refine ite_br (fun _ => ?_) (fun _ => ?_)
  · simp only [j1]; exact law_br (op_odds _ hG) nx
  refine ite_br (fun _ => ?_) (fun _ => ?_)
  · simp only [j1, j2]; exact law_br (op_streets _ _ hG) nx
  refine ite_br (fun _ => ?_) (fun _ => ?_)
  · simp only [j1]; exact law_brL (op_part _ hG) nx
  refine ite_br (fun _ => ?_) (fun _ => ?_)
  · simp only [j1]; exact law_br (op_image _ hG) nx
  refine ite_br (fun _ => ?_) (fun _ => ?_)
  · simp only [j1]; exact law_br (op_from _ hG) nx
  refine ite_br (fun _ => ?_) (fun _ => ?_)
  · simp only [j1]; exact law_br (op_status _ hG) nx
  refine ite_br (fun _ => ?_) (fun _ => ?_)
  · simp only [j1]; exact law_br (op_count _ hG) nx
  refine ite_br (fun _ => ?_) (fun _ => ?_)
  · exact law_brL (op_digest hG) nx
  exact nx S hG
theorem whole_start {p : Program} {e : Env} {s : State} {m : MethodId} {below : List Frame} {meth : Method} {c : Code} (l : Launch) (hflags : l.flags = flags0) {b L : Nat} {xs : Nat → Int32} (hL : L ≤ 256) (C0 : lw_At p s m meth c b L xs) : W p l e room_1 s m #[Value.ref b] below meth c s.heap [] 0 0 (lw_Z below #[Value.ref b] s) (entryFrame m ([Value.ref b] : List Value).toArray 4) :=
  start_open l C0 X3_init X12_init (law_loop hL GG_start)
