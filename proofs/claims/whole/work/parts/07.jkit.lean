/-! ===== the state of the two objects, and the combinators in which the methods are written as functions ===== -/
abbrev jS : Type := (Nat → Nat → Int32) × (Nat → Nat → Int64)
def jsR (S : jS) (k : Nat) (f : Nat → Int32) : jS := (fun a => if a = k then f else S.1 a, S.2)
def jsI (S : jS) (k j : Nat) (v : Int32) : jS := jsR S k (upd (S.1 k) j v)
def jsL (S : jS) (k j : Nat) (v : Int64) : jS := (S.1, fun a => if a = k then vp_updL (S.2 k) j v else S.2 a)
def jb (i : Int32) (n : Nat) : Bool := decide (¬ (i < 0 ∨ n ≤ i.toNatClampNeg))
theorem jb_in {i : Int32} {n : Nat} (h : jb i n = true) : vp_in i n := by
  unfold jb at h
  show ¬ (i < 0 ∨ n ≤ i.toNatClampNeg)
  exact of_decide_eq_true h
section
variable {α β : Type}
def jld (S : jS) (k : Nat) (i : Int32) (n : Nat) (E : Int32 → Option β) : Option β := if jb i n = true then E (S.1 k i.toNatClampNeg) else none
def jst (S : jS) (k : Nat) (i : Int32) (n : Nat) (v : Int32) (E : jS → Option β) : Option β := if jb i n = true then E (jsI S k i.toNatClampNeg v) else none
def jpt (S : jS) (k j : Nat) (v : Int32) (E : jS → Option β) : Option β := E (jsI S k j v)
def jpl (S : jS) (k j : Nat) (v : Int64) (E : jS → Option β) : Option β := E (jsL S k j v)
def jcl (F : Option (α × jS)) (E : α → jS → Option β) : Option β := match F with
  | none => none
  | some v => E v.1 v.2
def jcv (F : Option jS) (E : jS → Option β) : Option β := match F with
  | none => none
  | some v => E v
def jdv (x y : Int32) (E : Int32 → Option β) : Option β := if y = 0 then none else E (x / y)
def jrm (x y : Int32) (E : Int32 → Option β) : Option β := if y = 0 then none else E (x - x / y * y)
def jdl (x y : Int64) (E : Int64 → Option β) : Option β := if y = 0 then none else E (x / y)
def jrl (x y : Int64) (E : Int64 → Option β) : Option β := if y = 0 then none else E (x - x / y * y)
def jcb (n0 n1 : Nat) (sp dp n : Int32) : Bool := decide (¬ sp < 0 ∧ ¬ dp < 0 ∧ ¬ n < 0 ∧ sp.toNatClampNeg + n.toNatClampNeg ≤ n0 ∧ dp.toNatClampNeg + n.toNatClampNeg ≤ n1)
def jcp (S : jS) (k0 n0 : Nat) (sp : Int32) (k1 n1 : Nat) (dp n : Int32) (E : jS → Option β) : Option β := if jcb n0 n1 sp dp n = true then E (jsR S k1 (va_cpy (S.1 k0) (S.1 k1) sp.toNatClampNeg dp.toNatClampNeg n.toNatClampNeg)) else none
def jzr (v : Int32) (S : jS) : Option (Int32 × jS) := if v &&& 1 = v then some (v, S) else none
def jloop (B : (α → Option β) → α → Option β) : Nat → α → Option β
  | 0, _ => none
  | n + 1, a => B (jloop B n) a
def jN : Nat := 1000000000
theorem jcl_some {F : Option (α × jS)} {E : α → jS → Option β} {z : β} (h : jcl F E = some z) : ∃ v, F = some v ∧ E v.1 v.2 = some z := by
  cases F with
  | none => cases h
  | some v => exact ⟨v, rfl, h⟩
theorem jcv_some {F : Option jS} {E : jS → Option β} {z : β} (h : jcv F E = some z) : ∃ v, F = some v ∧ E v = some z := by
  cases F with
  | none => cases h
  | some v => exact ⟨v, rfl, h⟩
theorem jif_some {c : Prop} {d : Decidable c} {a : Option β} {z : β} (h : @ite _ c d a none = some z) : c ∧ a = some z := by
  by_cases hc : c
  · rw [if_pos hc] at h; exact ⟨hc, h⟩
  · rw [if_neg hc] at h; cases h
theorem jin_some {c : Prop} {d : Decidable c} {a : Option β} {z : β} (h : @ite _ c d none a = some z) : ¬ c ∧ a = some z := by
  by_cases hc : c
  · rw [if_pos hc] at h; cases h
  · rw [if_neg hc] at h; exact ⟨hc, h⟩
/-- a loop's machine part: if each turn leads to the head again, or out -/
theorem jloop_P {B : (α → Option β) → α → Option β} {z : β} {P : α → Prop} (hB : ∀ (g : α → Option β) (a : α), (∀ a', g a' = some z → P a') → B g a = some z → P a) : ∀ (n : Nat) (a : α), jloop B n a = some z → P a := by
  intro n
  induction n with
  | zero => intro a h; cases h
  | succ n ih => intro a h; exact hB (jloop B n) a ih h
end
/-! ===== the judgement: at pc, with the locals lv, the stack st and the state S, the machine comes to Q ===== -/
abbrev jX : Type _ := Program × Launch × Env × Room × State × MethodId × Array Value × List Frame × Method × Code × Nat × Nat × (State → Prop) × Nat
abbrev xp (X : jX) := X.1
abbrev xl (X : jX) := X.2.1
abbrev xe (X : jX) := X.2.2.1
abbrev xR (X : jX) := X.2.2.2.1
abbrev xs (X : jX) := X.2.2.2.2.1
abbrev xm (X : jX) := X.2.2.2.2.2.1
abbrev xa (X : jX) := X.2.2.2.2.2.2.1
abbrev xb (X : jX) := X.2.2.2.2.2.2.2.1
abbrev xh (X : jX) := X.2.2.2.2.2.2.2.2.1
abbrev xc (X : jX) := X.2.2.2.2.2.2.2.2.2.1
abbrev xk (X : jX) := X.2.2.2.2.2.2.2.2.2.2.1
abbrev xn (X : jX) := X.2.2.2.2.2.2.2.2.2.2.2.1
abbrev xQ (X : jX) := X.2.2.2.2.2.2.2.2.2.2.2.2.1
abbrev xL (X : jX) := X.2.2.2.2.2.2.2.2.2.2.2.2.2
/-- a world: slots and classes, the classes' fields, the arrays' types, which addresses are its own, how many cells, their addresses, what they hold, what else holds of a state -/
abbrev jY : Type := va_G × List vw_C × List (ClassId × FieldType) × (Nat → Prop) × Nat × (Nat → Nat) × (Nat → (Nat → Int32) → (Nat → Int64) → va_E) × (State → Prop)
abbrev yD (Y : jY) := Y.1
abbrev ycl (Y : jY) := Y.2.1
abbrev yt (Y : jY) := Y.2.2.1
abbrev yA (Y : jY) := Y.2.2.2.1
abbrev yN (Y : jY) := Y.2.2.2.2.1
abbrev yad (Y : jY) := Y.2.2.2.2.2.1
abbrev yE (Y : jY) := Y.2.2.2.2.2.2.1
abbrev yV (Y : jY) := Y.2.2.2.2.2.2.2
def jw (Y : jY) (S : jS) : va_W := (List.range (yN Y)).map fun k => (yad Y k, yE Y k (S.1 k) (S.2 k))
theorem jw_get (Y : jY) (S : jS) {k : Nat} (h : k < yN Y) : (jw Y S)[k]? = some (yad Y k, yE Y k (S.1 k) (S.2 k)) := by
  unfold jw
  rw [List.getElem?_map, List.getElem?_range h]
  rfl
theorem jw_len (Y : jY) (S : jS) : (jw Y S).length = yN Y := by unfold jw; rw [List.length_map, List.length_range]
theorem jw_none (Y : jY) (S : jS) {k : Nat} (h : ¬ k < yN Y) : (jw Y S)[k]? = none := List.getElem?_eq_none (by rw [jw_len]; omega)
theorem jw_set {Y : jY} {S S' : jS} {k : Nat} {e : va_E} (h : k < yN Y) (he : yE Y k (S'.1 k) (S'.2 k) = e) (ho : ∀ j, j ≠ k → S'.1 j = S.1 j ∧ S'.2 j = S.2 j) : (jw Y S).set k (yad Y k, e) = jw Y S' := by
  apply List.ext_getElem?
  intro i
  by_cases hi : i = k
  · subst hi
    rw [List.getElem?_set_self (by rw [jw_len]; exact h), jw_get Y S' h, he]
  · rw [List.getElem?_set_ne (Ne.symm hi)]
    by_cases hl : i < yN Y
    · rw [jw_get Y S hl, jw_get Y S' hl, (ho i hi).1, (ho i hi).2]
    · rw [jw_none Y S hl, jw_none Y S' hl]
def jOk (Y : jY) : Prop := (∀ i j, i < yN Y → j < yN Y → yad Y i = yad Y j → i = j) ∧ (∀ k, k < yN Y → yA Y (yad Y k)) ∧ (∀ s t : State, yV Y s → s.WarmedH t.vm → s.heap.size ≤ t.heap.size → (∀ q : Nat, q < s.heap.size → ¬ yA Y q → t.heap[q]? = s.heap[q]?) → yV Y t) ∧ (∀ s t : State, yV Y s → s.vm = t.vm → s.heap = t.heap → yV Y t)
theorem jw_D {Y : jY} (h : jOk Y) (S : jS) : va_D (yA Y) (jw Y S) := by
  have key : ∀ (k : Nat) (q : Nat × va_E), (jw Y S)[k]? = some q → k < yN Y ∧ q.1 = yad Y k := by
    intro k q hk
    by_cases hl : k < yN Y
    · rw [jw_get Y S hl] at hk
      cases hk
      exact ⟨hl, rfl⟩
    · rw [jw_none Y S hl] at hk
      cases hk
  refine ⟨fun i j p q hi hj hpq => ?_, fun k q hk => ?_⟩
  · obtain ⟨h1, h2⟩ := key i p hi
    obtain ⟨h3, h4⟩ := key j q hj
    exact h.1 i j h1 h3 (by rw [← h2, ← h4, hpq])
  · obtain ⟨h1, h2⟩ := key k q hk
    rw [h2]
    exact h.2.1 k h1
def jInv (Y : jY) (S : jS) (U : State) : Prop := va_P (yD Y) (ycl Y) (jw Y S) U.heap ∧ va_K (yD Y) (ycl Y) (yt Y) U ∧ yV Y U
def jQ (Y : jY) (z : Option Value × jS) : Array Value → State → Outcome → State → Prop := fun _ st oc t => oc = .returned z.1 ∧ jInv Y z.2 t ∧ va_F (yA Y) st t
def jT : List Cond := lw_tbl.filter goodWord
def jJ (X : jX) (Y : jY) (pc : Nat) (lv : List (Nat × Value)) (st : List Value) (S : jS) : Prop :=
  ∀ (ls : Array Slot) (H : Heap) (locs : List Loc), lv_has ls (xL X) lv → va_P (yD Y) (ycl Y) (jw Y S) H → va_S (yA Y) (xs X).heap H locs → W (xp X) (xl X) (xe X) (xR X) (xs X) (xm X) (xa X) (xb X) (xh X) (xc X) H locs (xk X) (xn X) (xQ X) (F0 (xm X) pc ls st)
def jC (X : jX) (Y : jY) (own : String) (cc : ByteArray) (ret : Option FieldType) (nL fr lo : Nat) : Prop :=
  (xp X).tables.exec = Jvm.exec ∧ (xc X).code = cc ∧ (xc X).maxLocals = nL ∧ (xs X).vm.findClass own = some (xm X).cls ∧ (∀ w ∈ jT, w.before (xa X) (xs X) = true) ∧ va_K (yD Y) (ycl Y) (yt Y) (xs X) ∧ jOk Y ∧ (xh X).locks = false ∧ (xh X).sig.returnType = ret ∧ xL X = nL ∧ (xR X).frames = fr ∧ (xR X).locals = lo ∧ xk X ≤ (xR X).cells ∧ xn X ≤ (xR X).slots ∧ yV Y (xs X)
def jRet (X : jX) (Y : jY) (z : Option Value × jS) : Prop := xQ X = MQ (xb X) (jQ Y z) (xa X) (xs X) (xk X) (xn X) (yA Y)
theorem jT_cons {w c : Cond} (h : w ∈ jT) : w ∈ c :: jT := List.mem_cons_of_mem _ h
theorem jT_goodIn {c d : Cond} (h : d ∈ jT) : GoodIn (c :: jT) (d :: jT) := by
  have hg : ∀ w, w ∈ jT → ((w.onTables && w.keeps) = true ∨ ∃ ty, w = .arrayClass ty) := fun w hw => good_of_word (List.mem_filter.mp hw).2
  intro w hw
  rcases List.mem_cons.mp hw with rfl | hw
  · exact ⟨jT_cons h, hg _ h⟩
  · exact ⟨jT_cons hw, hg _ hw⟩
theorem jT_goodIn0 {d : Cond} (h : d ∈ jT) : GoodIn jT (d :: jT) := by
  have hg : ∀ w, w ∈ jT → ((w.onTables && w.keeps) = true ∨ ∃ ty, w = .arrayClass ty) := fun w hw => good_of_word (List.mem_filter.mp hw).2
  intro w hw
  rcases List.mem_cons.mp hw with rfl | hw
  · exact ⟨h, hg _ h⟩
  · exact ⟨hw, hg _ hw⟩
theorem jT_good {w : Cond} (h : w ∈ jT) : w ∈ jT ∧ ((w.onTables && w.keeps) = true ∨ ∃ ty, w = .arrayClass ty) := ⟨h, good_of_word (List.mem_filter.mp h).2⟩
set_option maxHeartbeats 4000000 in
/-- a contract out of the walk of its body -/
theorem jMet {l : Launch} {Y : jY} (hO : jOk Y) {y : MethodName} {cc : ByteArray} {nL : Nat} {ret : Option FieldType} {fr lo : Nat} {own : String} {av : List Value} {S : jS} {z : Option Value × jS} (hy : plainName y.cls = true) (ho : y.cls = own) (hn : (lg_sl av).length ≤ nL)
    (body : ∀ X, xl X = l → jC X Y own cc ret nL fr lo → jRet X Y z → jJ X Y 0 (lv_args 0 av) [] S) : Met l y (.code y cc nL ret :: jT) { frames := fr, cells := 0, slots := 0, locals := lo } (va_Pc av (jInv Y S)) (jQ Y z) 0 0 (yA Y) := by
  refine Met.ofW (cc := cc) (maxL := nL) (ret := ret) hy rfl ?_
  intro p e s m args below meth c s₁ B hml hv
  obtain ⟨rfl, hP, hK, hV⟩ := hv
  have hts := atoms_spec (ws := .code y cc nL ret :: jT) B.pre
  have hown : s.vm.findClass y.cls = some m.cls := findClass_of_methodNamed B.named
  rw [lg_entry_eq]
  exact body (p, l, e, { frames := fr, cells := 0, slots := 0, locals := lo }, s, m, av.toArray, below, meth, c, 0, 0, MQ below (jQ Y z) av.toArray s 0 0 (yA Y), nL) rfl
    ⟨B.exec, B.bytes, hml, by rw [← ho]; exact hown, fun w h => hts w (jT_cons h), hK, hO, B.notSynchronized, B.returns, rfl, rfl, rfl, Nat.le_refl _, Nat.le_refl _, hV⟩ rfl _ _ _ (lv_entry av hn) hP va_S.rf
section jRows
variable {X : jX} {Y : jY} {own : String} {cc : ByteArray} {ret : Option FieldType} {nL fr lo pc : Nat} {lv : List (Nat × Value)} {st : List Value} {S : jS} {β : Type} {z : β} {E1 E2 : Option β}
theorem j_sub (ks : List Nat) {lv' : List (Nat × Value)} (h : lv_pick lv ks = lv') (K : jJ X Y pc lv' st S) : jJ X Y pc lv st S := fun ls H locs hl hP hS => K ls H locs (lv_sub hl ks h) hP hS
theorem j_iadd (C : jC X Y own cc ret nL fr lo) {x y : Int32} (d : decode cc pc = .ok (.iadd, 1))  (K : jJ X Y (pc + 1) lv (.int (x + y) :: st) S) : jJ X Y pc lv (.int y :: .int x :: st) S := fun ls H locs hl hP hS => lv_iadd C.1 C.2.1 d  (K ls H locs hl hP hS)
theorem j_isub (C : jC X Y own cc ret nL fr lo) {x y : Int32} (d : decode cc pc = .ok (.isub, 1))  (K : jJ X Y (pc + 1) lv (.int (x - y) :: st) S) : jJ X Y pc lv (.int y :: .int x :: st) S := fun ls H locs hl hP hS => lv_isub C.1 C.2.1 d  (K ls H locs hl hP hS)
theorem j_imul (C : jC X Y own cc ret nL fr lo) {x y : Int32} (d : decode cc pc = .ok (.imul, 1))  (K : jJ X Y (pc + 1) lv (.int (x * y) :: st) S) : jJ X Y pc lv (.int y :: .int x :: st) S := fun ls H locs hl hP hS => lv_imul C.1 C.2.1 d  (K ls H locs hl hP hS)
theorem j_iand (C : jC X Y own cc ret nL fr lo) {x y : Int32} (d : decode cc pc = .ok (.iand, 1))  (K : jJ X Y (pc + 1) lv (.int (x &&& y) :: st) S) : jJ X Y pc lv (.int y :: .int x :: st) S := fun ls H locs hl hP hS => lv_iand C.1 C.2.1 d  (K ls H locs hl hP hS)
theorem j_ior (C : jC X Y own cc ret nL fr lo) {x y : Int32} (d : decode cc pc = .ok (.ior, 1))  (K : jJ X Y (pc + 1) lv (.int (x ||| y) :: st) S) : jJ X Y pc lv (.int y :: .int x :: st) S := fun ls H locs hl hP hS => lv_ior C.1 C.2.1 d  (K ls H locs hl hP hS)
theorem j_ixor (C : jC X Y own cc ret nL fr lo) {x y : Int32} (d : decode cc pc = .ok (.ixor, 1))  (K : jJ X Y (pc + 1) lv (.int (x ^^^ y) :: st) S) : jJ X Y pc lv (.int y :: .int x :: st) S := fun ls H locs hl hP hS => lv_ixor C.1 C.2.1 d  (K ls H locs hl hP hS)
theorem j_ladd (C : jC X Y own cc ret nL fr lo) {x y : Int64} (d : decode cc pc = .ok (.ladd, 1))  (K : jJ X Y (pc + 1) lv (.long (x + y) :: st) S) : jJ X Y pc lv (.long y :: .long x :: st) S := fun ls H locs hl hP hS => lv_ladd C.1 C.2.1 d  (K ls H locs hl hP hS)
theorem j_lsub (C : jC X Y own cc ret nL fr lo) {x y : Int64} (d : decode cc pc = .ok (.lsub, 1))  (K : jJ X Y (pc + 1) lv (.long (x - y) :: st) S) : jJ X Y pc lv (.long y :: .long x :: st) S := fun ls H locs hl hP hS => lv_lsub C.1 C.2.1 d  (K ls H locs hl hP hS)
theorem j_lmul (C : jC X Y own cc ret nL fr lo) {x y : Int64} (d : decode cc pc = .ok (.lmul, 1))  (K : jJ X Y (pc + 1) lv (.long (x * y) :: st) S) : jJ X Y pc lv (.long y :: .long x :: st) S := fun ls H locs hl hP hS => lv_lmul C.1 C.2.1 d  (K ls H locs hl hP hS)
theorem j_ishl (C : jC X Y own cc ret nL fr lo) {x y : Int32} (d : decode cc pc = .ok (.ishl, 1))  (K : jJ X Y (pc + 1) lv (.int (x <<< (y &&& 31)) :: st) S) : jJ X Y pc lv (.int y :: .int x :: st) S := fun ls H locs hl hP hS => lv_ishl C.1 C.2.1 d  (K ls H locs hl hP hS)
theorem j_ishr (C : jC X Y own cc ret nL fr lo) {x y : Int32} (d : decode cc pc = .ok (.ishr, 1))  (K : jJ X Y (pc + 1) lv (.int (x >>> (y &&& 31)) :: st) S) : jJ X Y pc lv (.int y :: .int x :: st) S := fun ls H locs hl hP hS => lv_ishr C.1 C.2.1 d  (K ls H locs hl hP hS)
theorem j_ineg (C : jC X Y own cc ret nL fr lo) {x : Int32} (d : decode cc pc = .ok (.ineg, 1))  (K : jJ X Y (pc + 1) lv (.int (-x) :: st) S) : jJ X Y pc lv (.int x :: st) S := fun ls H locs hl hP hS => lv_ineg C.1 C.2.1 d  (K ls H locs hl hP hS)
theorem j_iushr (C : jC X Y own cc ret nL fr lo) {x y : Int32} (d : decode cc pc = .ok (.iushr, 1))  (K : jJ X Y (pc + 1) lv (.int (x.toUInt32 >>> (y.toUInt32 &&& Int32.toUInt32 31)).toInt32 :: st) S) : jJ X Y pc lv (.int y :: .int x :: st) S := fun ls H locs hl hP hS => lv_iushr C.1 C.2.1 d rfl (K ls H locs hl hP hS)
theorem j_lcmp (C : jC X Y own cc ret nL fr lo) {x y : Int64} (d : decode cc pc = .ok (.lcmp, 1))  (K : jJ X Y (pc + 1) lv (.int (lg_cmp x y) :: st) S) : jJ X Y pc lv (.long y :: .long x :: st) S := fun ls H locs hl hP hS => W.lcmp C.1 C.2.1 d  (K ls H locs hl hP hS)
theorem j_i2l (C : jC X Y own cc ret nL fr lo) {x : Int32} (d : decode cc pc = .ok (.i2l, 1))  (K : jJ X Y (pc + 1) lv (.long x.toInt64 :: st) S) : jJ X Y pc lv (.int x :: st) S := fun ls H locs hl hP hS => lv_i2l C.1 C.2.1 d rfl (K ls H locs hl hP hS)
theorem j_l2i (C : jC X Y own cc ret nL fr lo) {x : Int64} (d : decode cc pc = .ok (.l2i, 1))  (K : jJ X Y (pc + 1) lv (.int x.toInt32 :: st) S) : jJ X Y pc lv (.long x :: st) S := fun ls H locs hl hP hS => lv_l2i C.1 C.2.1 d rfl (K ls H locs hl hP hS)
theorem j_i2b (C : jC X Y own cc ret nL fr lo) {x : Int32} (d : decode cc pc = .ok (.i2b, 1))  (K : jJ X Y (pc + 1) lv (.int x.toInt8.toInt32 :: st) S) : jJ X Y pc lv (.int x :: st) S := fun ls H locs hl hP hS => lv_i2b C.1 C.2.1 d rfl (K ls H locs hl hP hS)
theorem j_iconst (C : jC X Y own cc ret nL fr lo) {n : Int} {v : Int32} (d : decode cc pc = .ok (.iconst n, 1)) (hv : Int32.ofInt n = v) (K : jJ X Y (pc + 1) lv (.int v :: st) S) : jJ X Y pc lv (st) S := fun ls H locs hl hP hS => lv_iconst C.1 C.2.1 d hv (K ls H locs hl hP hS)
theorem j_lconst (C : jC X Y own cc ret nL fr lo) {n : Fin 2} {v : Int64} (d : decode cc pc = .ok (.lconst n, 1)) (hv : Int64.ofNat (n : Nat) = v) (K : jJ X Y (pc + 1) lv (.long v :: st) S) : jJ X Y pc lv (st) S := fun ls H locs hl hP hS => lv_lconst C.1 C.2.1 d hv (K ls H locs hl hP hS)
theorem j_bipush (C : jC X Y own cc ret nL fr lo) {n : Int} {v : Int32} (d : decode cc pc = .ok (.bipush n, 2)) (hv : (Int8.ofInt n).toInt32 = v) (K : jJ X Y (pc + 2) lv (.int v :: st) S) : jJ X Y pc lv (st) S := fun ls H locs hl hP hS => lv_bipush C.1 C.2.1 d hv (K ls H locs hl hP hS)
theorem j_sipush (C : jC X Y own cc ret nL fr lo) {n : Int} {v : Int32} (d : decode cc pc = .ok (.sipush n, 3)) (hv : (Int16.ofInt n).toInt32 = v) (K : jJ X Y (pc + 3) lv (.int v :: st) S) : jJ X Y pc lv (st) S := fun ls H locs hl hP hS => lv_sipush C.1 C.2.1 d hv (K ls H locs hl hP hS)
theorem j_dup (C : jC X Y own cc ret nL fr lo) {va : Value} (d : decode cc pc = .ok (.dup, 1)) (hva : va.category = 1) (K : jJ X Y (pc + 1) lv (va :: va :: st) S) : jJ X Y pc lv (va :: st) S := fun ls H locs hl hP hS => lv_dup C.1 C.2.1 d hva (K ls H locs hl hP hS)
theorem j_dup2 (C : jC X Y own cc ret nL fr lo) {va vb : Value} (d : decode cc pc = .ok (.dup2, 1)) (hva : va.category = 1) (hvb : vb.category = 1) (K : jJ X Y (pc + 1) lv (va :: vb :: va :: vb :: st) S) : jJ X Y pc lv (va :: vb :: st) S := fun ls H locs hl hP hS => lv_dup2_11 C.1 C.2.1 d hva hvb (K ls H locs hl hP hS)
theorem j_pop (C : jC X Y own cc ret nL fr lo) {va : Value} (d : decode cc pc = .ok (.pop, 1)) (hva : va.category = 1) (K : jJ X Y (pc + 1) lv (st) S) : jJ X Y pc lv (va :: st) S := fun ls H locs hl hP hS => lv_pop C.1 C.2.1 d hva (K ls H locs hl hP hS)
theorem j_ldc (C : jC X Y own cc ret nL fr lo) {i : Nat} {v : Int32} (d : decode cc pc = .ok (.ldc i, 2)) (hw : Cond.constant own i v ∈ jT) (K : jJ X Y (pc + 2) lv (.int v :: st) S) : jJ X Y pc lv st S := fun ls H locs hl hP hS => lv_ldc C.1 C.2.1 C.2.2.2.1 (C.2.2.2.2.1 _ hw) d (K ls H locs hl hP hS)
theorem j_ldcw (C : jC X Y own cc ret nL fr lo) {i : Nat} {v : Int32} (d : decode cc pc = .ok (.ldc_w i, 3)) (hw : Cond.constant own i v ∈ jT) (K : jJ X Y (pc + 3) lv (.int v :: st) S) : jJ X Y pc lv st S := fun ls H locs hl hP hS => lv_ldcw C.1 C.2.1 C.2.2.2.1 (C.2.2.2.2.1 _ hw) d (K ls H locs hl hP hS)
theorem j_ldc2 (C : jC X Y own cc ret nL fr lo) {i : Nat} {v : Int64} (d : decode cc pc = .ok (.ldc2_w i, 3)) (hw : Cond.constantLong own i v ∈ jT) (K : jJ X Y (pc + 3) lv (.long v :: st) S) : jJ X Y pc lv st S := fun ls H locs hl hP hS => lv_ldc2 C.1 C.2.1 C.2.2.2.1 (C.2.2.2.2.1 _ hw) d (K ls H locs hl hP hS)
theorem j_iload_n (C : jC X Y own cc ret nL fr lo) {k : Fin 4} {x : Int32} (d : decode cc pc = .ok (.iload_n k, 1)) (q : Nat) (h : lv[q]? = some ((k : Nat), .int x)) (K : jJ X Y (pc + 1) lv (.int x :: st) S) : jJ X Y pc lv st S := fun ls H locs hl hP hS => lv_iload_n C.1 C.2.1 d rfl (lv_at hl q h) (K ls H locs hl hP hS)
theorem j_iload (C : jC X Y own cc ret nL fr lo) {i : Nat} {x : Int32} (d : decode cc pc = .ok (.iload i, 2)) (q : Nat) (h : lv[q]? = some (i, .int x)) (K : jJ X Y (pc + 2) lv (.int x :: st) S) : jJ X Y pc lv st S := fun ls H locs hl hP hS => lv_iload C.1 C.2.1 d (lv_at hl q h) (K ls H locs hl hP hS)
theorem j_lload_n (C : jC X Y own cc ret nL fr lo) {k : Fin 4} {x : Int64} (d : decode cc pc = .ok (.lload_n k, 1)) (q : Nat) (h : lv[q]? = some ((k : Nat), .long x)) (K : jJ X Y (pc + 1) lv (.long x :: st) S) : jJ X Y pc lv st S := fun ls H locs hl hP hS => lv_lload_n C.1 C.2.1 d rfl (lv_at hl q h) (K ls H locs hl hP hS)
theorem j_lload (C : jC X Y own cc ret nL fr lo) {i : Nat} {x : Int64} (d : decode cc pc = .ok (.lload i, 2)) (q : Nat) (h : lv[q]? = some (i, .long x)) (K : jJ X Y (pc + 2) lv (.long x :: st) S) : jJ X Y pc lv st S := fun ls H locs hl hP hS => lv_lload C.1 C.2.1 d (lv_at hl q h) (K ls H locs hl hP hS)
theorem j_aload_n (C : jC X Y own cc ret nL fr lo) {k : Fin 4} {x : Nat} (d : decode cc pc = .ok (.aload_n k, 1)) (q : Nat) (h : lv[q]? = some ((k : Nat), .ref x)) (K : jJ X Y (pc + 1) lv (.ref x :: st) S) : jJ X Y pc lv st S := fun ls H locs hl hP hS => lv_aload_n C.1 C.2.1 d rfl (lv_at hl q h) (K ls H locs hl hP hS)
theorem j_aload (C : jC X Y own cc ret nL fr lo) {i : Nat} {x : Nat} (d : decode cc pc = .ok (.aload i, 2)) (q : Nat) (h : lv[q]? = some (i, .ref x)) (K : jJ X Y (pc + 2) lv (.ref x :: st) S) : jJ X Y pc lv st S := fun ls H locs hl hP hS => lv_aload C.1 C.2.1 d (lv_at hl q h) (K ls H locs hl hP hS)
theorem j_istore_n (C : jC X Y own cc ret nL fr lo) {k : Fin 4} {i : Nat} {x : Int32} {lv' : List (Nat × Value)} (d : decode cc pc = .ok (.istore_n k, 1)) (hi : (k : Nat) = i) (hn : i < nL) (hf : (i, Value.int x) :: lv.filter (fun q => !(q.1 == i) && !(q.1 + 1 == i && q.2.category == 2)) = lv') (K : jJ X Y (pc + 1) lv' st S) : jJ X Y pc lv (.int x :: st) S := fun ls H locs hl hP hS => lv_istore_n C.1 C.2.1 d hi hl (by rw [C.2.2.2.2.2.2.2.2.2.1]; exact hn) hf (fun ls' hl' => K ls' H locs hl' hP hS)
theorem j_istore (C : jC X Y own cc ret nL fr lo) {i : Nat} {x : Int32} {lv' : List (Nat × Value)} (d : decode cc pc = .ok (.istore i, 2)) (hn : i < nL) (hf : (i, Value.int x) :: lv.filter (fun q => !(q.1 == i) && !(q.1 + 1 == i && q.2.category == 2)) = lv') (K : jJ X Y (pc + 2) lv' st S) : jJ X Y pc lv (.int x :: st) S := fun ls H locs hl hP hS => lv_istore C.1 C.2.1 d hl (by rw [C.2.2.2.2.2.2.2.2.2.1]; exact hn) hf (fun ls' hl' => K ls' H locs hl' hP hS)
theorem j_lstore_n (C : jC X Y own cc ret nL fr lo) {k : Fin 4} {i : Nat} {x : Int64} {lv' : List (Nat × Value)} (d : decode cc pc = .ok (.lstore_n k, 1)) (hi : (k : Nat) = i) (hn : i + 1 < nL) (hf : (i, Value.long x) :: lv.filter (fun q => !(q.1 == i) && (!(q.1 == i + 1) && !(q.1 + 1 == i && q.2.category == 2))) = lv') (K : jJ X Y (pc + 1) lv' st S) : jJ X Y pc lv (.long x :: st) S := fun ls H locs hl hP hS => lv_lstore_n C.1 C.2.1 d hi hl (by rw [C.2.2.2.2.2.2.2.2.2.1]; exact hn) hf (fun ls' hl' => K ls' H locs hl' hP hS)
theorem j_lstore (C : jC X Y own cc ret nL fr lo) {i : Nat} {x : Int64} {lv' : List (Nat × Value)} (d : decode cc pc = .ok (.lstore i, 2)) (hn : i + 1 < nL) (hf : (i, Value.long x) :: lv.filter (fun q => !(q.1 == i) && (!(q.1 == i + 1) && !(q.1 + 1 == i && q.2.category == 2))) = lv') (K : jJ X Y (pc + 2) lv' st S) : jJ X Y pc lv (.long x :: st) S := fun ls H locs hl hP hS => lv_lstore C.1 C.2.1 d hl (by rw [C.2.2.2.2.2.2.2.2.2.1]; exact hn) hf (fun ls' hl' => K ls' H locs hl' hP hS)
theorem j_astore_n (C : jC X Y own cc ret nL fr lo) {k : Fin 4} {i : Nat} {x : Nat} {lv' : List (Nat × Value)} (d : decode cc pc = .ok (.astore_n k, 1)) (hi : (k : Nat) = i) (hn : i < nL) (hf : (i, Value.ref x) :: lv.filter (fun q => !(q.1 == i) && !(q.1 + 1 == i && q.2.category == 2)) = lv') (K : jJ X Y (pc + 1) lv' st S) : jJ X Y pc lv (.ref x :: st) S := fun ls H locs hl hP hS => lv_astore_n C.1 C.2.1 d hi hl (by rw [C.2.2.2.2.2.2.2.2.2.1]; exact hn) hf (fun ls' hl' => K ls' H locs hl' hP hS)
theorem j_astore (C : jC X Y own cc ret nL fr lo) {i : Nat} {x : Nat} {lv' : List (Nat × Value)} (d : decode cc pc = .ok (.astore i, 2)) (hn : i < nL) (hf : (i, Value.ref x) :: lv.filter (fun q => !(q.1 == i) && !(q.1 + 1 == i && q.2.category == 2)) = lv') (K : jJ X Y (pc + 2) lv' st S) : jJ X Y pc lv (.ref x :: st) S := fun ls H locs hl hP hS => lv_astore C.1 C.2.1 d hl (by rw [C.2.2.2.2.2.2.2.2.2.1]; exact hn) hf (fun ls' hl' => K ls' H locs hl' hP hS)
theorem j_iinc (C : jC X Y own cc ret nL fr lo) {i : Nat} {n : Int} {x v : Int32} {lv' : List (Nat × Value)} (d : decode cc pc = .ok (.iinc i n, 3)) (q : Nat) (h : lv[q]? = some (i, .int x)) (hv : x + Int32.ofInt n = v) (hn : i < nL) (hf : (i, Value.int v) :: lv.filter (fun q => !(q.1 == i) && !(q.1 + 1 == i && q.2.category == 2)) = lv') (K : jJ X Y (pc + 3) lv' st S) : jJ X Y pc lv st S := fun ls H locs hl hP hS => lv_iinc C.1 C.2.1 d hl h hv (by rw [C.2.2.2.2.2.2.2.2.2.1]; exact hn) hf (fun ls' hl' => K ls' H locs hl' hP hS)
theorem j_goto (C : jC X Y own cc ret nL fr lo) {off : Int} {tgt : Nat} (d : decode cc pc = .ok (.goto off, 3)) (ht : (pc : Int) + off = (tgt : Int)) (K : jJ X Y tgt lv st S) : jJ X Y pc lv st S := fun ls H locs hl hP hS => lv_goto C.1 C.2.1 d ht (K ls H locs hl hP hS)
theorem j_ifnonnull (C : jC X Y own cc ret nL fr lo) {x : Nat} {off : Int} {tgt : Nat} (d : decode cc pc = .ok (.ifnonnull off, 3)) (ht : (pc : Int) + off = (tgt : Int)) (K : jJ X Y tgt lv st S) : jJ X Y pc lv (.ref x :: st) S := fun ls H locs hl hP hS => lv_ifnonnull C.1 C.2.1 d ht (K ls H locs hl hP hS)
theorem j_ifnull (C : jC X Y own cc ret nL fr lo) {x : Nat} {off : Int} (d : decode cc pc = .ok (.ifnull off, 3)) (K : jJ X Y (pc + 3) lv st S) : jJ X Y pc lv (.ref x :: st) S := fun ls H locs hl hP hS => lv_ifnull C.1 C.2.1 d (K ls H locs hl hP hS)
theorem j_icmp_eq (C : jC X Y own cc ret nL fr lo) {x y : Int32} {off : Int} {tgt : Nat} (d : decode cc pc = .ok (.if_icmp .eq off, 3)) (ht : (pc : Int) + off = (tgt : Int)) (hE : (if x = y then E1 else E2) = some z) (kt : E1 = some z → jJ X Y tgt lv st S) (kf : E2 = some z → jJ X Y (pc + 3) lv st S) : jJ X Y pc lv (.int y :: .int x :: st) S := fun ls H locs hl hP hS => lv_icmp_eq C.1 C.2.1 d ht (fun c => kt (by rw [if_pos (c)] at hE; exact hE) ls H locs hl hP hS) (fun c => kf (by rw [if_neg (c)] at hE; exact hE) ls H locs hl hP hS)
theorem j_icmp_ne (C : jC X Y own cc ret nL fr lo) {x y : Int32} {off : Int} {tgt : Nat} (d : decode cc pc = .ok (.if_icmp .ne off, 3)) (ht : (pc : Int) + off = (tgt : Int)) (hE : (if x = y then E1 else E2) = some z) (kt : E2 = some z → jJ X Y tgt lv st S) (kf : E1 = some z → jJ X Y (pc + 3) lv st S) : jJ X Y pc lv (.int y :: .int x :: st) S := fun ls H locs hl hP hS => lv_icmp_ne C.1 C.2.1 d ht (fun c => kt (by rw [if_neg (c)] at hE; exact hE) ls H locs hl hP hS) (fun c => kf (by rw [if_pos (c)] at hE; exact hE) ls H locs hl hP hS)
theorem j_icmp_lt (C : jC X Y own cc ret nL fr lo) {x y : Int32} {off : Int} {tgt : Nat} (d : decode cc pc = .ok (.if_icmp .lt off, 3)) (ht : (pc : Int) + off = (tgt : Int)) (hE : (if x < y then E1 else E2) = some z) (kt : E1 = some z → jJ X Y tgt lv st S) (kf : E2 = some z → jJ X Y (pc + 3) lv st S) : jJ X Y pc lv (.int y :: .int x :: st) S := fun ls H locs hl hP hS => lv_icmp_lt C.1 C.2.1 d ht (fun c => kt (by rw [if_pos (c)] at hE; exact hE) ls H locs hl hP hS) (fun c => kf (by rw [if_neg (c)] at hE; exact hE) ls H locs hl hP hS)
theorem j_icmp_ge (C : jC X Y own cc ret nL fr lo) {x y : Int32} {off : Int} {tgt : Nat} (d : decode cc pc = .ok (.if_icmp .ge off, 3)) (ht : (pc : Int) + off = (tgt : Int)) (hE : (if x < y then E1 else E2) = some z) (kt : E2 = some z → jJ X Y tgt lv st S) (kf : E1 = some z → jJ X Y (pc + 3) lv st S) : jJ X Y pc lv (.int y :: .int x :: st) S := fun ls H locs hl hP hS => lv_icmp_ge C.1 C.2.1 d ht (fun c => kt (by rw [if_neg (Int32.not_lt.mpr c)] at hE; exact hE) ls H locs hl hP hS) (fun c => kf (by rw [if_pos (Int32.not_le.mp c)] at hE; exact hE) ls H locs hl hP hS)
theorem j_icmp_gt (C : jC X Y own cc ret nL fr lo) {x y : Int32} {off : Int} {tgt : Nat} (d : decode cc pc = .ok (.if_icmp .gt off, 3)) (ht : (pc : Int) + off = (tgt : Int)) (hE : (if y < x then E1 else E2) = some z) (kt : E1 = some z → jJ X Y tgt lv st S) (kf : E2 = some z → jJ X Y (pc + 3) lv st S) : jJ X Y pc lv (.int y :: .int x :: st) S := fun ls H locs hl hP hS => lv_icmp_gt C.1 C.2.1 d ht (fun c => kt (by rw [if_pos (c)] at hE; exact hE) ls H locs hl hP hS) (fun c => kf (by rw [if_neg (c)] at hE; exact hE) ls H locs hl hP hS)
theorem j_icmp_le (C : jC X Y own cc ret nL fr lo) {x y : Int32} {off : Int} {tgt : Nat} (d : decode cc pc = .ok (.if_icmp .le off, 3)) (ht : (pc : Int) + off = (tgt : Int)) (hE : (if y < x then E1 else E2) = some z) (kt : E2 = some z → jJ X Y tgt lv st S) (kf : E1 = some z → jJ X Y (pc + 3) lv st S) : jJ X Y pc lv (.int y :: .int x :: st) S := fun ls H locs hl hP hS => lv_icmp_le C.1 C.2.1 d ht (fun c => kt (by rw [if_neg (Int32.not_lt.mpr c)] at hE; exact hE) ls H locs hl hP hS) (fun c => kf (by rw [if_pos (Int32.not_le.mp c)] at hE; exact hE) ls H locs hl hP hS)
theorem j_if_eq (C : jC X Y own cc ret nL fr lo) {x : Int32} {off : Int} {tgt : Nat} (d : decode cc pc = .ok (.ifCond .eq off, 3)) (ht : (pc : Int) + off = (tgt : Int)) (hE : (if x = 0 then E1 else E2) = some z) (kt : E1 = some z → jJ X Y tgt lv st S) (kf : E2 = some z → jJ X Y (pc + 3) lv st S) : jJ X Y pc lv (.int x :: st) S := fun ls H locs hl hP hS => lv_if_eq C.1 C.2.1 d ht (fun c => kt (by rw [if_pos (c)] at hE; exact hE) ls H locs hl hP hS) (fun c => kf (by rw [if_neg (c)] at hE; exact hE) ls H locs hl hP hS)
theorem j_if_ne (C : jC X Y own cc ret nL fr lo) {x : Int32} {off : Int} {tgt : Nat} (d : decode cc pc = .ok (.ifCond .ne off, 3)) (ht : (pc : Int) + off = (tgt : Int)) (hE : (if x = 0 then E1 else E2) = some z) (kt : E2 = some z → jJ X Y tgt lv st S) (kf : E1 = some z → jJ X Y (pc + 3) lv st S) : jJ X Y pc lv (.int x :: st) S := fun ls H locs hl hP hS => lv_if_ne C.1 C.2.1 d ht (fun c => kt (by rw [if_neg (c)] at hE; exact hE) ls H locs hl hP hS) (fun c => kf (by rw [if_pos (c)] at hE; exact hE) ls H locs hl hP hS)
theorem j_if_lt (C : jC X Y own cc ret nL fr lo) {x : Int32} {off : Int} {tgt : Nat} (d : decode cc pc = .ok (.ifCond .lt off, 3)) (ht : (pc : Int) + off = (tgt : Int)) (hE : (if x < 0 then E1 else E2) = some z) (kt : E1 = some z → jJ X Y tgt lv st S) (kf : E2 = some z → jJ X Y (pc + 3) lv st S) : jJ X Y pc lv (.int x :: st) S := fun ls H locs hl hP hS => lv_if_lt C.1 C.2.1 d ht (fun c => kt (by rw [if_pos (c)] at hE; exact hE) ls H locs hl hP hS) (fun c => kf (by rw [if_neg (c)] at hE; exact hE) ls H locs hl hP hS)
theorem j_if_ge (C : jC X Y own cc ret nL fr lo) {x : Int32} {off : Int} {tgt : Nat} (d : decode cc pc = .ok (.ifCond .ge off, 3)) (ht : (pc : Int) + off = (tgt : Int)) (hE : (if x < 0 then E1 else E2) = some z) (kt : E2 = some z → jJ X Y tgt lv st S) (kf : E1 = some z → jJ X Y (pc + 3) lv st S) : jJ X Y pc lv (.int x :: st) S := fun ls H locs hl hP hS => lv_if_ge C.1 C.2.1 d ht (fun c => kt (by rw [if_neg (Int32.not_lt.mpr c)] at hE; exact hE) ls H locs hl hP hS) (fun c => kf (by rw [if_pos (Int32.not_le.mp c)] at hE; exact hE) ls H locs hl hP hS)
theorem j_if_gt (C : jC X Y own cc ret nL fr lo) {x : Int32} {off : Int} {tgt : Nat} (d : decode cc pc = .ok (.ifCond .gt off, 3)) (ht : (pc : Int) + off = (tgt : Int)) (hE : (if 0 < x then E1 else E2) = some z) (kt : E1 = some z → jJ X Y tgt lv st S) (kf : E2 = some z → jJ X Y (pc + 3) lv st S) : jJ X Y pc lv (.int x :: st) S := fun ls H locs hl hP hS => lv_if_gt C.1 C.2.1 d ht (fun c => kt (by rw [if_pos (c)] at hE; exact hE) ls H locs hl hP hS) (fun c => kf (by rw [if_neg (c)] at hE; exact hE) ls H locs hl hP hS)
theorem j_if_le (C : jC X Y own cc ret nL fr lo) {x : Int32} {off : Int} {tgt : Nat} (d : decode cc pc = .ok (.ifCond .le off, 3)) (ht : (pc : Int) + off = (tgt : Int)) (hE : (if 0 < x then E1 else E2) = some z) (kt : E2 = some z → jJ X Y tgt lv st S) (kf : E1 = some z → jJ X Y (pc + 3) lv st S) : jJ X Y pc lv (.int x :: st) S := fun ls H locs hl hP hS => lv_if_le C.1 C.2.1 d ht (fun c => kt (by rw [if_neg (Int32.not_lt.mpr c)] at hE; exact hE) ls H locs hl hP hS) (fun c => kf (by rw [if_pos (Int32.not_le.mp c)] at hE; exact hE) ls H locs hl hP hS)
theorem j_idiv (C : jC X Y own cc ret nL fr lo) {x y : Int32} {E : Int32 → Option β} (d : decode cc pc = .ok (.idiv, 1)) (hE : jdv x y E = some z) (K : ∀ v : Int32, E v = some z → jJ X Y (pc + 1) lv (.int v :: st) S) : jJ X Y pc lv (.int y :: .int x :: st) S := fun ls H locs hl hP hS => lv_idiv C.1 C.2.1 d (jin_some hE).1 (K _ (jin_some hE).2 ls H locs hl hP hS)
theorem j_irem (C : jC X Y own cc ret nL fr lo) {x y : Int32} {E : Int32 → Option β} (d : decode cc pc = .ok (.irem, 1)) (hE : jrm x y E = some z) (K : ∀ v : Int32, E v = some z → jJ X Y (pc + 1) lv (.int v :: st) S) : jJ X Y pc lv (.int y :: .int x :: st) S := fun ls H locs hl hP hS => lv_irem C.1 C.2.1 d (jin_some hE).1 (K _ (jin_some hE).2 ls H locs hl hP hS)
theorem j_ldiv (C : jC X Y own cc ret nL fr lo) {x y : Int64} {E : Int64 → Option β} (d : decode cc pc = .ok (.ldiv, 1)) (hE : jdl x y E = some z) (K : ∀ v : Int64, E v = some z → jJ X Y (pc + 1) lv (.long v :: st) S) : jJ X Y pc lv (.long y :: .long x :: st) S := fun ls H locs hl hP hS => lv_ldiv C.1 C.2.1 d (jin_some hE).1 (K _ (jin_some hE).2 ls H locs hl hP hS)
theorem j_lrem (C : jC X Y own cc ret nL fr lo) {x y : Int64} {E : Int64 → Option β} (d : decode cc pc = .ok (.lrem, 1)) (hE : jrl x y E = some z) (K : ∀ v : Int64, E v = some z → jJ X Y (pc + 1) lv (.long v :: st) S) : jJ X Y pc lv (.long y :: .long x :: st) S := fun ls H locs hl hP hS => lv_lrem C.1 C.2.1 d (jin_some hE).1 (K _ (jin_some hE).2 ls H locs hl hP hS)
theorem j_tin (C : jC X Y own cc ret nL fr lo) {dflt a b : Int} {offs : Array Int} {len : Nat} {x : Int32} {off : Int} {tgt : Nat} (d : decode cc pc = .ok (.tableswitch dflt a b offs, len)) (h1 : ¬ x.toInt < a) (h2 : ¬ b < x.toInt) (ho : offs[(x.toInt - a).toNat]? = some off) (ht : (pc : Int) + off = (tgt : Int)) (K : jJ X Y tgt lv st S) : jJ X Y pc lv (.int x :: st) S := fun ls H locs hl hP hS => lv_tableIn C.1 C.2.1 d h1 h2 ho ht (K ls H locs hl hP hS)
theorem j_tout (C : jC X Y own cc ret nL fr lo) {dflt a b : Int} {offs : Array Int} {len : Nat} {x : Int32} {tgt : Nat} (d : decode cc pc = .ok (.tableswitch dflt a b offs, len)) (h : x.toInt < a ∨ b < x.toInt) (ht : (pc : Int) + dflt = (tgt : Int)) (K : jJ X Y tgt lv st S) : jJ X Y pc lv (.int x :: st) S := fun ls H locs hl hP hS => lv_tableOut C.1 C.2.1 d h ht (K ls H locs hl hP hS)
theorem j_case {P : Prop} {x c : Int32} (hE : (if x = c then E1 else E2) = some z) (kt : x = c → E1 = some z → P) (kf : ¬ x = c → E2 = some z → P) : P := by
  by_cases h : x = c
  · rw [if_pos h] at hE; exact kt h hE
  · rw [if_neg h] at hE; exact kf h hE
theorem j_V {X : jX} {Y : jY} {t : State} {H : Heap} {locs : List Loc} (hO : jOk Y) (hV : yV Y (xs X)) (ht : t.heap = H) (hW : (xs X).WarmedH t.vm) (hS : va_S (yA Y) (xs X).heap H locs) : yV Y t := hO.2.2.1 (xs X) t hV hW (by rw [ht]; exact hS.1) (fun q h1 h2 => by rw [ht]; exact hS.2.1 q h1 h2)
theorem j_iret (C : jC X Y own cc (some .int) nL fr lo) {r : Int32} {z : Int32 × jS} (Q : jRet X Y (some (.int z.1), z.2)) (d : decode cc pc = .ok (.ireturn, 1))  (hE : some (r, S) = some z) : jJ X Y pc lv [.int r] S := by
  obtain ⟨hx, hb, hml, hown, hts, hK, hO, hlk, hr, -, -, -, -, -, hV⟩ := C
  
  cases hE
  intro ls H locs hl hP hS
  have h := W.iret (p := xp X) (l := xl X) (e := xe X) (R := xR X) (s := xs X) (m := xm X) (args := xa X) (below := xb X) (meth := xh X) (c := xc X) (H := H) (locs := locs) (cells := xk X) (slots := xn X) (ls := ls) (Qc := jQ Y (some (.int r), S)) (free := yA Y) (v := r) hx hb hr  (fun t ht hW => ⟨rfl, ⟨by rw [ht]; exact hP, va_K.moved hW.alike hK, j_V hO hV ht hW hS⟩, hS.F ht⟩) hS.2.2 d hlk
  unfold jRet at Q
  show W _ _ _ _ _ _ _ _ _ _ _ _ _ _ (xQ X) _
  rw [Q]
  exact h
theorem j_lret (C : jC X Y own cc (some .long) nL fr lo) {r : Int64} {z : Int64 × jS} (Q : jRet X Y (some (.long z.1), z.2)) (d : decode cc pc = .ok (.lreturn, 1))  (hE : some (r, S) = some z) : jJ X Y pc lv [.long r] S := by
  obtain ⟨hx, hb, hml, hown, hts, hK, hO, hlk, hr, -, -, -, -, -, hV⟩ := C
  
  cases hE
  intro ls H locs hl hP hS
  have h := W.lret (p := xp X) (l := xl X) (e := xe X) (R := xR X) (s := xs X) (m := xm X) (args := xa X) (below := xb X) (meth := xh X) (c := xc X) (H := H) (locs := locs) (cells := xk X) (slots := xn X) (ls := ls) (Qc := jQ Y (some (.long r), S)) (free := yA Y) (v := r) hx hb hr  (fun t ht hW => ⟨rfl, ⟨by rw [ht]; exact hP, va_K.moved hW.alike hK, j_V hO hV ht hW hS⟩, hS.F ht⟩) hS.2.2 d hlk
  unfold jRet at Q
  show W _ _ _ _ _ _ _ _ _ _ _ _ _ _ (xQ X) _
  rw [Q]
  exact h
theorem j_vret (C : jC X Y own cc (none) nL fr lo)  {z : jS} (Q : jRet X Y (none, z)) (d : decode cc pc = .ok (.return_, 1))  (hE : some S = some z) : jJ X Y pc lv [] S := by
  obtain ⟨hx, hb, hml, hown, hts, hK, hO, hlk, hr, -, -, -, -, -, hV⟩ := C
  
  cases hE
  intro ls H locs hl hP hS
  have h := W.vret (p := xp X) (l := xl X) (e := xe X) (R := xR X) (s := xs X) (m := xm X) (args := xa X) (below := xb X) (meth := xh X) (c := xc X) (H := H) (locs := locs) (cells := xk X) (slots := xn X) (ls := ls) (Qc := jQ Y (none, S)) (free := yA Y)  hx hb hr  (fun t ht hW => ⟨rfl, ⟨by rw [ht]; exact hP, va_K.moved hW.alike hK, j_V hO hV ht hW hS⟩, hS.F ht⟩) hS.2.2 d hlk
  unfold jRet at Q
  show W _ _ _ _ _ _ _ _ _ _ _ _ _ _ (xQ X) _
  rw [Q]
  exact h
theorem j_zret (C : jC X Y own cc (some .boolean) nL fr lo) {r : Int32} {z : Int32 × jS} (Q : jRet X Y (some (.int z.1), z.2)) (d : decode cc pc = .ok (.ireturn, 1)) (hE : jzr r S = some z) : jJ X Y pc lv [.int r] S := by
  obtain ⟨hx, hb, hml, hown, hts, hK, hO, hlk, hr, -, -, -, -, -, hV⟩ := C
  obtain ⟨hn, hE⟩ := jif_some hE
  cases hE
  intro ls H locs hl hP hS
  have h := W.zret (p := xp X) (l := xl X) (e := xe X) (R := xR X) (s := xs X) (m := xm X) (args := xa X) (below := xb X) (meth := xh X) (c := xc X) (H := H) (locs := locs) (cells := xk X) (slots := xn X) (ls := ls) (Qc := jQ Y (some (.int r), S)) (free := yA Y) (v := r) hx hb hr (by show Value.int (r &&& 1) = _; rw [hn]) (fun t ht hW => ⟨rfl, ⟨by rw [ht]; exact hP, va_K.moved hW.alike hK, j_V hO hV ht hW hS⟩, hS.F ht⟩) hS.2.2 d hlk
  unfold jRet at Q
  show W _ _ _ _ _ _ _ _ _ _ _ _ _ _ (xQ X) _
  rw [Q]
  exact h
theorem jsR_same (S : jS) (k : Nat) (f : Nat → Int32) : (jsR S k f).1 k = f := by unfold jsR; exact if_pos rfl
theorem jsR_other (S : jS) {k j : Nat} (f : Nat → Int32) (h : j ≠ k) : (jsR S k f).1 j = S.1 j ∧ (jsR S k f).2 j = S.2 j := by unfold jsR; exact ⟨if_neg h, rfl⟩
theorem jsL_same (S : jS) (k j : Nat) (v : Int64) : (jsL S k j v).2 k = vp_updL (S.2 k) j v := by unfold jsL; exact if_pos rfl
theorem jsL_other (S : jS) {k i : Nat} (j : Nat) (v : Int64) (h : i ≠ k) : (jsL S k j v).1 i = S.1 i ∧ (jsL S k j v).2 i = S.2 i := by unfold jsL; exact ⟨rfl, if_neg h⟩
/-- a getfield: the k-th cell is an object of the ci-th class, its fields are fs, the f-th of them is v -/
theorem j_get (C : jC X Y own cc ret nL fr lo) {k ci f idx N : Nat} {fs : List Value} {v : Value} {Cn ref : String} {T : u_T} (hk : k < yN Y) (he : yE Y k (S.1 k) (S.2 k) = .inr (ci, fs)) (hc : (ycl Y)[ci]? = some (Cn, T, N)) (hin : ∀ w ∈ u_ws Cn T N, w ∈ jT) (hf : f < N) (hl : Cond.fieldLink own idx ref (T f).2.1 (T f).2.2.1 ∈ jT) (hsame : ref = (T f).1 ∨ Cond.sameField ref (T f).1 (T f).2.1 (T f).2.2.1 ∈ jT) (hv : fs[f]? = some v) (d : decode cc pc = .ok (.getfield idx, 3)) (K : jJ X Y (pc + 3) lv (v :: st) S) : jJ X Y pc lv (.ref (yad Y k) :: st) S := by
  obtain ⟨hx, hb, hml, hown, hts, hK, hO, hlk, hr, -, -, -, -, -, hV⟩ := C
  intro ls H locs hl' hP hS
  refine va_get (D := yD Y) (ci := ci) (v := v) (C := Cn) (T := T) (N := N) hx hb hts hin hown hK hP k (by rw [jw_get Y S hk, he]) hc f hf (hts _ hl) ?_ hv d (K ls H locs hl' hP hS)
  rcases hsame with h | h
  · rw [h]; exact fun _ h9 => h9
  · exact u_same (hts _ h)
theorem j_putI (C : jC X Y own cc ret nL fr lo) {k ci f idx N : Nat} {fs : List Value} {x : Int32} {Cn : String} {T : u_T} {E : jS → Option β} (hk : k < yN Y) (he : yE Y k (S.1 k) (S.2 k) = .inr (ci, fs)) (he' : yE Y k (upd (S.1 k) f x) (S.2 k) = .inr (ci, fs.set f (.int x))) (hc : (ycl Y)[ci]? = some (Cn, T, N)) (hin : ∀ w ∈ u_ws Cn T N, w ∈ jT) (ty0 : Nat → FieldType) (hty : ∀ k, k < N → parseFieldDescriptor (T k).2.2.1 = some (ty0 k)) (hnm : ∀ a, a < N → ∀ b, b < N → a ≠ b → (T a).2.1 ≠ (T b).2.1) (hf : f < N) (hl : Cond.fieldLink own idx (T f).1 (T f).2.1 (T f).2.2.1 ∈ jT) (hfin : (T f).2.2.2 = false) (hd : parseFieldDescriptor (T f).2.2.1 = some .int) (hlen : f < fs.length) (d : decode cc pc = .ok (.putfield idx, 3)) (hE : jpt S k f x E = some z) (K : ∀ S', E S' = some z → jJ X Y (pc + 3) lv st S') : jJ X Y pc lv (.int x :: .ref (yad Y k) :: st) S := by
  obtain ⟨hx, hb, hml, hown, hts, hK, hO, hlk, hr, -, -, -, -, -, hV⟩ := C
  intro ls H locs hl' hP hS
  refine va_put (D := yD Y) (ci := ci) (v := .int x) (ty := .int) (C := Cn) (T := T) (N := N) hx hb hts hin ty0 hty hnm hown hK hP (jw_D hO S) hS k (by rw [jw_get Y S hk, he]) hc f hf (hts _ hl) (fun _ h9 => h9) hfin hd rfl rfl hlen d (fun H1 locs1 hP1 hD1 hS1 => ?_)
  rw [jw_set (S' := jsI S k f x) hk (by unfold jsI; rw [jsR_same]; exact he') (fun j hj => jsR_other S _ hj)] at hP1
  exact K _ hE ls H1 locs1 hl' hP1 hS1
theorem j_putL (C : jC X Y own cc ret nL fr lo) {k ci f idx N : Nat} {fs : List Value} {x : Int64} {Cn : String} {T : u_T} {E : jS → Option β} (hk : k < yN Y) (he : yE Y k (S.1 k) (S.2 k) = .inr (ci, fs)) (he' : yE Y k (S.1 k) (vp_updL (S.2 k) f x) = .inr (ci, fs.set f (.long x))) (hc : (ycl Y)[ci]? = some (Cn, T, N)) (hin : ∀ w ∈ u_ws Cn T N, w ∈ jT) (ty0 : Nat → FieldType) (hty : ∀ k, k < N → parseFieldDescriptor (T k).2.2.1 = some (ty0 k)) (hnm : ∀ a, a < N → ∀ b, b < N → a ≠ b → (T a).2.1 ≠ (T b).2.1) (hf : f < N) (hl : Cond.fieldLink own idx (T f).1 (T f).2.1 (T f).2.2.1 ∈ jT) (hfin : (T f).2.2.2 = false) (hd : parseFieldDescriptor (T f).2.2.1 = some .long) (hlen : f < fs.length) (d : decode cc pc = .ok (.putfield idx, 3)) (hE : jpl S k f x E = some z) (K : ∀ S', E S' = some z → jJ X Y (pc + 3) lv st S') : jJ X Y pc lv (.long x :: .ref (yad Y k) :: st) S := by
  obtain ⟨hx, hb, hml, hown, hts, hK, hO, hlk, hr, -, -, -, -, -, hV⟩ := C
  intro ls H locs hl' hP hS
  refine va_put (D := yD Y) (ci := ci) (v := .long x) (ty := .long) (C := Cn) (T := T) (N := N) hx hb hts hin ty0 hty hnm hown hK hP (jw_D hO S) hS k (by rw [jw_get Y S hk, he]) hc f hf (hts _ hl) (fun _ h9 => h9) hfin hd rfl rfl hlen d (fun H1 locs1 hP1 hD1 hS1 => ?_)
  rw [jw_set (S' := jsL S k f x) hk (by rw [jsL_same]; exact he') (fun j hj => jsL_other S _ _ hj)] at hP1
  exact K _ hE ls H1 locs1 hl' hP1 hS1
theorem j_alen (C : jC X Y own cc ret nL fr lo) {k t n : Nat} {cA : ClassId} {a : vp_A} {ty : FieldType} {v : Int32} (hk : k < yN Y) (he : yE Y k (S.1 k) (S.2 k) = .inl (cA, a)) (ht : (yt Y)[t]? = some (cA, ty)) (hv : Int32.ofNat a.1 = v) (d : decode cc pc = .ok (.arraylength, 1)) (K : jJ X Y (pc + 1) lv (.int v :: st) S) : jJ X Y pc lv (.ref (yad Y k) :: st) S := fun ls H locs hl hP hS => va_alen C.1 C.2.1 C.2.2.2.2.2.1 hP k t (by rw [jw_get Y S hk, he]) ht hv d (K ls H locs hl hP hS)
theorem j_iald (C : jC X Y own cc ret nL fr lo) {k t n : Nat} {cA : ClassId} {i : Int32} {E : Int32 → Option β} (hk : k < yN Y) (he : yE Y k (S.1 k) (S.2 k) = .inl (cA, n, .inl (S.1 k))) (ht : (yt Y)[t]? = some (cA, .int)) (d : decode cc pc = .ok (.iaload, 1)) (hE : jld S k i n E = some z) (K : ∀ v : Int32, E v = some z → jJ X Y (pc + 1) lv (.int v :: st) S) : jJ X Y pc lv (.int i :: .ref (yad Y k) :: st) S := fun ls H locs hl hP hS => va_iald C.1 C.2.1 C.2.2.2.2.2.1 hP k t (by rw [jw_get Y S hk, he]) ht (jb_in (jif_some hE).1) d (K _ (jif_some hE).2 ls H locs hl hP hS)
theorem j_bald (C : jC X Y own cc ret nL fr lo) {k t n : Nat} {cA : ClassId} {i : Int32} {E : Int32 → Option β} (hk : k < yN Y) (he : yE Y k (S.1 k) (S.2 k) = .inl (cA, n, .inl (S.1 k))) (ht : (yt Y)[t]? = some (cA, .byte)) (d : decode cc pc = .ok (.baload, 1)) (hE : jld S k i n E = some z) (K : ∀ v : Int32, E v = some z → jJ X Y (pc + 1) lv (.int v :: st) S) : jJ X Y pc lv (.int i :: .ref (yad Y k) :: st) S := fun ls H locs hl hP hS => va_bald C.1 C.2.1 C.2.2.2.2.2.1 hP k t (by rw [jw_get Y S hk, he]) ht (jb_in (jif_some hE).1) d (K _ (jif_some hE).2 ls H locs hl hP hS)
theorem j_zald (C : jC X Y own cc ret nL fr lo) {k t n : Nat} {cA : ClassId} {i : Int32} {E : Int32 → Option β} (hk : k < yN Y) (he : yE Y k (S.1 k) (S.2 k) = .inl (cA, n, .inl (S.1 k))) (ht : (yt Y)[t]? = some (cA, .boolean)) (d : decode cc pc = .ok (.baload, 1)) (hE : jld S k i n E = some z) (K : ∀ v : Int32, E v = some z → jJ X Y (pc + 1) lv (.int v :: st) S) : jJ X Y pc lv (.int i :: .ref (yad Y k) :: st) S := fun ls H locs hl hP hS => va_zald C.1 C.2.1 C.2.2.2.2.2.1 hP k t (by rw [jw_get Y S hk, he]) ht (jb_in (jif_some hE).1) d (K _ (jif_some hE).2 ls H locs hl hP hS)
theorem j_iast (C : jC X Y own cc ret nL fr lo) {k t n : Nat} {cA : ClassId} {i x : Int32} {E : jS → Option β} (hk : k < yN Y) (he : ∀ f : Nat → Int32, yE Y k f (S.2 k) = .inl (cA, n, .inl f)) (ht : (yt Y)[t]? = some (cA, .int)) (d : decode cc pc = .ok (.iastore, 1)) (hE : jst S k i n (x) E = some z) (K : ∀ S', E S' = some z → jJ X Y (pc + 1) lv st S') : jJ X Y pc lv (.int x :: .int i :: .ref (yad Y k) :: st) S := by
  obtain ⟨hx, hb, hml, hown, hts, hK, hO, hlk, hr, -, -, -, -, -, hV⟩ := C
  intro ls H locs hl hP hS
  refine va_iast hx hb hK hP (jw_D hO S) hS k t (by rw [jw_get Y S hk, he]) ht (jb_in (jif_some hE).1) d (fun H1 locs1 hP1 hD1 hS1 => ?_)
  rw [jw_set (S' := jsI S k i.toNatClampNeg (x)) hk (by unfold jsI; rw [jsR_same]; exact he _) (fun j hj => jsR_other S _ hj)] at hP1
  exact K _ (jif_some hE).2 ls H1 locs1 hl hP1 hS1
theorem j_bast (C : jC X Y own cc ret nL fr lo) {k t n : Nat} {cA : ClassId} {i x : Int32} {E : jS → Option β} (hk : k < yN Y) (he : ∀ f : Nat → Int32, yE Y k f (S.2 k) = .inl (cA, n, .inl f)) (ht : (yt Y)[t]? = some (cA, .byte)) (d : decode cc pc = .ok (.bastore, 1)) (hE : jst S k i n (vp_nar .byte x) E = some z) (K : ∀ S', E S' = some z → jJ X Y (pc + 1) lv st S') : jJ X Y pc lv (.int x :: .int i :: .ref (yad Y k) :: st) S := by
  obtain ⟨hx, hb, hml, hown, hts, hK, hO, hlk, hr, -, -, -, -, -, hV⟩ := C
  intro ls H locs hl hP hS
  refine va_bast hx hb hK hP (jw_D hO S) hS k t (by rw [jw_get Y S hk, he]) ht (jb_in (jif_some hE).1) d (fun H1 locs1 hP1 hD1 hS1 => ?_)
  rw [jw_set (S' := jsI S k i.toNatClampNeg (vp_nar .byte x)) hk (by unfold jsI; rw [jsR_same]; exact he _) (fun j hj => jsR_other S _ hj)] at hP1
  exact K _ (jif_some hE).2 ls H1 locs1 hl hP1 hS1
theorem j_zast (C : jC X Y own cc ret nL fr lo) {k t n : Nat} {cA : ClassId} {i x : Int32} {E : jS → Option β} (hk : k < yN Y) (he : ∀ f : Nat → Int32, yE Y k f (S.2 k) = .inl (cA, n, .inl f)) (ht : (yt Y)[t]? = some (cA, .boolean)) (d : decode cc pc = .ok (.bastore, 1)) (hE : jst S k i n (vp_nar .boolean x) E = some z) (K : ∀ S', E S' = some z → jJ X Y (pc + 1) lv st S') : jJ X Y pc lv (.int x :: .int i :: .ref (yad Y k) :: st) S := by
  obtain ⟨hx, hb, hml, hown, hts, hK, hO, hlk, hr, -, -, -, -, -, hV⟩ := C
  intro ls H locs hl hP hS
  refine va_zast hx hb hK hP (jw_D hO S) hS k t (by rw [jw_get Y S hk, he]) ht (jb_in (jif_some hE).1) d (fun H1 locs1 hP1 hD1 hS1 => ?_)
  rw [jw_set (S' := jsI S k i.toNatClampNeg (vp_nar .boolean x)) hk (by unfold jsI; rw [jsR_same]; exact he _) (fun j hj => jsR_other S _ hj)] at hP1
  exact K _ (jif_some hE).2 ls H1 locs1 hl hP1 hS1
theorem jcb_spec {n0 n1 : Nat} {sp dp n : Int32} (h : jcb n0 n1 sp dp n = true) : ¬ sp < 0 ∧ ¬ dp < 0 ∧ ¬ n < 0 ∧ sp.toNatClampNeg + n.toNatClampNeg ≤ n0 ∧ dp.toNatClampNeg + n.toNatClampNeg ≤ n1 := of_decide_eq_true h
theorem j_copy (C : jC X Y own cc ret nL fr lo) {k0 k1 t n0 n1 idx : Nat} {cA : ClassId} {sp dp n : Int32} {E : jS → Option β} (hk0 : k0 < yN Y) (hk1 : k1 < yN Y) (he0 : yE Y k0 (S.1 k0) (S.2 k0) = .inl (cA, n0, .inl (S.1 k0))) (he1 : ∀ f : Nat → Int32, yE Y k1 f (S.2 k1) = .inl (cA, n1, .inl f)) (ht : (yt Y)[t]? = some (cA, .int)) (hw1 : Cond.methodLink own idx arraycopyName ∈ jT) (hw2 : Cond.native arraycopyName ∈ jT) (hw3 : Cond.static arraycopyName ∈ jT) (hw4 : Cond.initialized "java/lang/System" ∈ jT) (hfr : 1 ≤ fr) (hlo : (st.map fun v => v.category).sum + (nativeFrameWords "java/lang/System" "arraycopy" 5 + 11) ≤ lo) (d : decode cc pc = .ok (.invokestatic idx, 3)) (hE : jcp S k0 n0 sp k1 n1 dp n E = some z) (K : ∀ S', E S' = some z → jJ X Y (pc + 3) lv st S') : jJ X Y pc lv (.int n :: .int dp :: .ref (yad Y k1) :: .int sp :: .ref (yad Y k0) :: st) S := by
  obtain ⟨hx, hb, hml, hown, hts, hK, hO, hlk, hr, hL, hRf, hRl, -, -, hV⟩ := C
  intro ls H locs hl hP hS
  obtain ⟨g1, g2, g3, g4, g5⟩ := jcb_spec (jif_some hE).1
  refine va_copyi (ls := ls) hx hb (by rw [hl.1, hL]; exact hml) hown (hts _ hw1) (hts _ hw2) (hts _ hw3) (hts _ hw4) hK hP (jw_D hO S) hS k0 k1 t t (by rw [jw_get Y S hk0, he0]) (by rw [jw_get Y S hk1, he1]) ht ht rfl g1 g2 g3 g4 g5 (fun _ _ => rfl) (by rw [hRf]; exact hfr) (by rw [hRl]; exact hlo) d (fun H1 locs1 hP1 hD1 hS1 => ?_)
  rw [jw_set (S' := jsR S k1 (va_cpy (S.1 k0) (S.1 k1) sp.toNatClampNeg dp.toNatClampNeg n.toNatClampNeg)) hk1 (by rw [jsR_same]; exact he1 _) (fun j hj => jsR_other S _ hj)] at hP1
  exact K _ (jif_some hE).2 ls H1 locs1 hl hP1 hS1
end jRows
/-- behind a call -/
theorem j_run {X : jX} {Y : jY} {pc : Nat} {lv : List (Nat × Value)} {st0 st : List Value} {a : Array Value} {z0 : Option Value × jS} {ls : Array Slot} {H : Heap} {locs : List Loc} (hr : va_Run (xp X) (xl X) (xe X) (xR X) (xs X) (xm X) (xa X) (xb X) (xh X) (xc X) H locs (xk X) (xn X) 0 0 (F0 (xm X) pc ls st0) st (jQ Y z0 a) (yA Y)) (hl : lv_has ls (xL X) lv) (hS : va_S (yA Y) (xs X).heap H locs) (K : jJ X Y (pc + 3) lv (z0.1.toList ++ st) z0.2) : W (xp X) (xl X) (xe X) (xR X) (xs X) (xm X) (xa X) (xb X) (xh X) (xc X) H locs (xk X) (xn X) (xQ X) (F0 (xm X) pc ls st0) := by
  intro T hT X1
  obtain ⟨v, st₀, t, T', L, h0, X', hL, e1, e2, ⟨hv, ⟨hP, -, -⟩, hz, hk⟩, stp⟩ := hr T hT X1
  cases hv
  rw [h0] at hz hk
  obtain ⟨t2, a1, b1⟩ := K ls T'.heap (locs ++ L) hl (by rw [e1]; exact hP) ⟨Nat.le_trans hS.1 (by rw [e1]; exact hz), fun q h1 h2 => by rw [e1, hk q (Nat.lt_of_lt_of_le h1 hS.1) h2]; exact hS.2.1 q h1 h2, fun q hq => by
      rcases List.mem_append.mp hq with h | h
      · exact hS.2.2 q h
      · exact hL q h⟩ T' rfl X'
  exact ⟨t2, stp t2 a1, b1⟩
theorem j_blind {Y : jY} (hO : jOk Y) {av : List Value} {S : jS} : FrameBlind (va_Pc av (jInv Y S)) := by
  intro a U g mk h
  obtain ⟨h1, hP, hK, hV⟩ := h
  exact ⟨h1, hP, va_K.moved (u := U) (U := U.calling g mk a) (Vm.Alike.refl U.vm) hK, hO.2.2.2 U _ hV rfl rfl⟩
theorem j_preS {X : jX} {Y : jY} (hO : jOk Y) (hK : va_K (yD Y) (ycl Y) (yt Y) (xs X)) (hV : yV Y (xs X)) {av : List Value} {S : jS} {H : Heap} {locs : List Loc} (hP : va_P (yD Y) (ycl Y) (jw Y S) H) (hS : va_S (yA Y) (xs X).heap H locs) : PreS (xs X) H (va_Pc av (jInv Y S)) av := ⟨j_blind hO, fun U hU hW => ⟨rfl, by rw [hU]; exact hP, va_K.moved hW.alike hK, j_V hO hV hU hW hS⟩⟩
section jCalls
variable {X : jX} {Y : jY} {own : String} {cc : ByteArray} {ret : Option FieldType} {nL fr lo pc : Nat} {lv : List (Nat × Value)} {st stk : List Value} {S : jS} {y : MethodName} {bytes : ByteArray} {maxL fr1 lo1 idx n k ci N : Nat} {r : Option FieldType} {Cn : String} {T : u_T} {fs As : List Value} {z0 : Option Value × jS}
theorem j_callV (C : jC X Y own cc ret nL fr lo) (hM : Met (xl X) y (.code y bytes maxL r :: jT) { frames := fr1, cells := 0, slots := 0, locals := lo1 } (va_Pc (.ref (yad Y k) :: As) (jInv Y S)) (jQ Y z0) 0 0 (yA Y)) (hw1 : Cond.methodLink own idx y ∈ jT) (hw2 : Cond.instanceMethod y ∈ jT) (hw3 : Cond.selects Cn y y ∈ jT) (hw4 : Cond.initialized Cn ∈ jT) (hw5 : Cond.code y bytes maxL r ∈ jT) (hd : y.cls = Cn ∧ y.cls ≠ "java/lang/invoke/MethodHandle" ∧ y.cls ≠ "java/lang/invoke/VarHandle" ∧ (parseMethodDescriptor y.desc).map (fun d => d.parameters.length) = some n) (hn : As.length = n) (hk : k < yN Y) (he : yE Y k (S.1 k) (S.2 k) = .inr (ci, fs)) (hc : (ycl Y)[ci]? = some (Cn, T, N)) (hfr : fr1 + 1 ≤ fr) (hlo : 8 + (maxL + 11) + lo1 ≤ lo) (hst : (st.map fun v => v.category).sum ≤ 8) (hs : stk = As.reverse ++ .ref (yad Y k) :: st) (d : decode cc pc = .ok (.invokevirtual idx, 3)) (K : jJ X Y (pc + 3) lv (z0.1.toList ++ st) z0.2) : jJ X Y pc lv stk S := by
  obtain ⟨hx, hb, hml, hown, hts, hK, hO, hlk, hr, hL, hRf, hRl, hc1, hc2, hV⟩ := C
  subst hs
  intro ls H locs hl hP hS
  obtain ⟨p1, p2⟩ := j_preS (av := .ref (yad Y k) :: As) hO hK hV hP hS
  have hG : GoodIn jT (wsV own idx Cn y (.code y bytes maxL r :: jT)) := by
    intro w hw
    unfold wsV at hw
    rcases List.mem_append.mp hw with h | h
    · simp only [List.mem_cons, List.not_mem_nil, or_false] at h
      rcases h with rfl | rfl | rfl | rfl
      · exact jT_good hw1
      · exact jT_good hw2
      · exact jT_good hw3
      · exact jT_good hw4
    · exact jT_goodIn0 hw5 w h
  exact j_run (va_runV (As := As) (rest := st) ⟨hx, hb, by rw [hml, ← hL], hown, hts⟩ hM (cwV n hts hG rfl rfl rfl hd ⟨by rw [hRf]; exact hfr, by rw [hRl]; exact hlo⟩) ⟨p1, va_recv hK hP (q0 := k) hc (by rw [jw_get Y S hk, he]), p2⟩ rfl hn hl.1 rfl (lv_room hst) d ⟨hc1, hc2⟩) hl hS K
theorem j_callS (C : jC X Y own cc ret nL fr lo) (hM : Met (xl X) y (.code y bytes maxL r :: jT) { frames := fr1, cells := 0, slots := 0, locals := lo1 } (va_Pc As (jInv Y S)) (jQ Y z0) 0 0 (yA Y)) (hw1 : Cond.methodLink own idx y ∈ jT) (hw2 : Cond.static y ∈ jT) (hw4 : Cond.initialized y.cls ∈ jT) (hw5 : Cond.code y bytes maxL r ∈ jT) (hd : y.cls ≠ "java/lang/invoke/MethodHandle" ∧ y.cls ≠ "java/lang/invoke/VarHandle" ∧ (parseMethodDescriptor y.desc).map (fun d => d.parameters.length) = some n) (hn : As.length = n) (hfr : fr1 + 1 ≤ fr) (hlo : 8 + (maxL + 11) + lo1 ≤ lo) (hst : (st.map fun v => v.category).sum ≤ 8) (hs : stk = As.reverse ++ st) (d : decode cc pc = .ok (.invokestatic idx, 3)) (K : jJ X Y (pc + 3) lv (z0.1.toList ++ st) z0.2) : jJ X Y pc lv stk S := by
  obtain ⟨hx, hb, hml, hown, hts, hK, hO, hlk, hr, hL, hRf, hRl, hc1, hc2, hV⟩ := C
  subst hs
  intro ls H locs hl hP hS
  have hG : GoodIn jT (va_wsS own idx y (.code y bytes maxL r :: jT)) := by
    intro w hw
    unfold va_wsS at hw
    rcases List.mem_append.mp hw with h | h
    · simp only [List.mem_cons, List.not_mem_nil, or_false] at h
      rcases h with rfl | rfl | rfl
      · exact jT_good hw1
      · exact jT_good hw2
      · exact jT_good hw4
    · exact jT_goodIn0 hw5 w h
  exact j_run (va_runS (As := As) (rest := st) ⟨hx, hb, by rw [hml, ← hL], hown, hts⟩ hM (va_cwS n hts hG rfl rfl rfl hd ⟨by rw [hRf]; exact hfr, by rw [hRl]; exact hlo⟩) (j_preS hO hK hV hP hS) rfl hn hl.1 rfl (lv_room hst) d ⟨hc1, hc2⟩) hl hS K
/-- a nest mate's static method -/
theorem j_callSN (C : jC X Y own cc ret nL fr lo) {host : String} (hM : Met (xl X) y (.code y bytes maxL r :: jT) { frames := fr1, cells := 0, slots := 0, locals := lo1 } (va_Pc As (jInv Y S)) (jQ Y z0) 0 0 (yA Y)) (hw1 : va_Nw (.methodLinkNest own idx y host) (xs X)) (hw2 : Cond.static y ∈ jT) (hw4 : Cond.initialized y.cls ∈ jT) (hw5 : Cond.code y bytes maxL r ∈ jT) (hd : y.cls ≠ "java/lang/invoke/MethodHandle" ∧ y.cls ≠ "java/lang/invoke/VarHandle" ∧ (parseMethodDescriptor y.desc).map (fun d => d.parameters.length) = some n) (hn : As.length = n) (hfr : fr1 + 1 ≤ fr) (hlo : 8 + (maxL + 11) + lo1 ≤ lo) (hst : (st.map fun v => v.category).sum ≤ 8) (hs : stk = As.reverse ++ st) (d : decode cc pc = .ok (.invokestatic idx, 3)) (K : jJ X Y (pc + 3) lv (z0.1.toList ++ st) z0.2) : jJ X Y pc lv stk S := by
  obtain ⟨hx, hb, hml, hown, hts, hK, hO, hlk, hr, hL, hRf, hRl, hc1, hc2, hV⟩ := C
  subst hs
  intro ls H locs hl hP hS
  exact j_run (va_runSN (As := As) (rest := st) ⟨hx, hb, by rw [hml, ← hL], hown, hts⟩ hM ⟨va_cnB n hts (jT_goodIn0 hw5) rfl rfl rfl hw1 (hts _ hw4) hd ⟨by rw [hRf]; exact hfr, by rw [hRl]; exact hlo⟩, hts _ hw2, trivial⟩ (j_preS hO hK hV hP hS) rfl hn hl.1 rfl (lv_room hst) d ⟨hc1, hc2⟩) hl hS K
/-- an overriding method: x is named, y is run -/
theorem j_callO (C : jC X Y own cc ret nL fr lo) {x : MethodName} {owner : String} {b0 : ByteArray} {m0 : Nat} {r0 : Option FieldType} (hM : Met (xl X) y (.code y bytes maxL r :: jT) { frames := fr1, cells := 0, slots := 0, locals := lo1 } (va_Pc (.ref (yad Y k) :: As) (jInv Y S)) (jQ Y z0) 0 0 (yA Y)) (hw1 : Cond.methodLink own idx x ∈ jT) (hw2 : Cond.sameMethod x.cls owner x.name x.desc ∈ jT) (hw3 : Cond.instanceMethod ⟨owner, x.name, x.desc⟩ ∈ jT) (hw4 : Cond.selects Cn x y ∈ jT) (hw5 : Cond.instanceMethod y ∈ jT) (hw6 : Cond.initialized y.cls ∈ jT) (hw7 : Cond.code y bytes maxL r ∈ jT) (h0 : Cond.code ⟨owner, x.name, x.desc⟩ b0 m0 r0 ∈ jT) (hd : owner ≠ "java/lang/invoke/MethodHandle" ∧ owner ≠ "java/lang/invoke/VarHandle" ∧ (parseMethodDescriptor x.desc).map (fun d => d.parameters.length) = some n) (hn : As.length = n) (hk : k < yN Y) (he : yE Y k (S.1 k) (S.2 k) = .inr (ci, fs)) (hc : (ycl Y)[ci]? = some (Cn, T, N)) (hfr : fr1 + 1 ≤ fr) (hlo : 8 + (maxL + 11) + lo1 ≤ lo) (hst : (st.map fun v => v.category).sum ≤ 8) (hs : stk = As.reverse ++ .ref (yad Y k) :: st) (d : decode cc pc = .ok (.invokevirtual idx, 3)) (K : jJ X Y (pc + 3) lv (z0.1.toList ++ st) z0.2) : jJ X Y pc lv stk S := by
  obtain ⟨hx, hb, hml, hown, hts, hK, hO, hlk, hr, hL, hRf, hRl, hc1, hc2, hV⟩ := C
  subst hs
  intro ls H locs hl hP hS
  obtain ⟨p1, p2⟩ := j_preS (av := .ref (yad Y k) :: As) hO hK hV hP hS
  have hG : GoodIn jT (va_wsO own idx Cn owner x y (.code y bytes maxL r :: jT)) := by
    intro w hw
    unfold va_wsO at hw
    rcases List.mem_append.mp hw with h | h
    · simp only [List.mem_cons, List.not_mem_nil, or_false] at h
      rcases h with rfl | rfl | rfl | rfl | rfl | rfl
      · exact jT_good hw1
      · exact jT_good hw2
      · exact jT_good hw3
      · exact jT_good hw4
      · exact jT_good hw5
      · exact jT_good hw6
    · exact jT_goodIn0 hw7 w h
  exact j_run (va_runU (As := As) (rest := st) ⟨hx, hb, by rw [hml, ← hL], hown, hts⟩ hM (va_cwO n hts hG rfl rfl rfl h0 hd ⟨by rw [hRf]; exact hfr, by rw [hRl]; exact hlo⟩) ⟨p1, va_recv hK hP (q0 := k) hc (by rw [jw_get Y S hk, he]), p2⟩ rfl hn hl.1 rfl (lv_room hst) d ⟨hc1, hc2⟩) hl hS K
/-- super.y(..) -/
theorem j_callSU (C : jC X Y own cc ret nL fr lo) (hM : Met (xl X) y (.code y bytes maxL r :: jT) { frames := fr1, cells := 0, slots := 0, locals := lo1 } (va_Pc (.ref (yad Y k) :: As) (jInv Y S)) (jQ Y z0) 0 0 (yA Y)) (hw1 : Cond.methodLink own idx y ∈ jT) (hw2 : Cond.sameMethod y.cls y.cls y.name y.desc ∈ jT) (hw3 : Cond.superclass own y.cls ∈ jT) (hw5 : Cond.instanceMethod y ∈ jT) (hw6 : Cond.initialized y.cls ∈ jT) (hw7 : Cond.code y bytes maxL r ∈ jT) (hd : y.name ≠ "<init>" ∧ (parseMethodDescriptor y.desc).map (fun d => d.parameters.length) = some n) (hn : As.length = n) (hk : k < yN Y) (he : yE Y k (S.1 k) (S.2 k) = .inr (ci, fs)) (hc : (ycl Y)[ci]? = some (Cn, T, N)) (hfr : fr1 + 1 ≤ fr) (hlo : 8 + (maxL + 11) + lo1 ≤ lo) (hst : (st.map fun v => v.category).sum ≤ 8) (hs : stk = As.reverse ++ .ref (yad Y k) :: st) (d : decode cc pc = .ok (.invokespecial idx, 3)) (K : jJ X Y (pc + 3) lv (z0.1.toList ++ st) z0.2) : jJ X Y pc lv stk S := by
  obtain ⟨hx, hb, hml, hown, hts, hK, hO, hlk, hr, hL, hRf, hRl, hc1, hc2, hV⟩ := C
  subst hs
  intro ls H locs hl hP hS
  obtain ⟨p1, p2⟩ := j_preS (av := .ref (yad Y k) :: As) hO hK hV hP hS
  have hG : GoodIn jT (va_wsSU own idx y (.code y bytes maxL r :: jT)) := by
    intro w hw
    unfold va_wsSU at hw
    rcases List.mem_append.mp hw with h | h
    · simp only [List.mem_cons, List.not_mem_nil, or_false] at h
      rcases h with rfl | rfl | rfl | rfl | rfl
      · exact jT_good hw1
      · exact jT_good hw2
      · exact jT_good hw3
      · exact jT_good hw5
      · exact jT_good hw6
    · exact jT_goodIn0 hw7 w h
  exact j_run (va_runSU (As := As) (rest := st) (hK.1 ci _ hc).2 ⟨hx, hb, by rw [hml, ← hL], hown, hts⟩ hM (va_cwSU n hts hG rfl rfl rfl hd ⟨by rw [hRf]; exact hfr, by rw [hRl]; exact hlo⟩) ⟨p1, va_recv hK hP (q0 := k) hc (by rw [jw_get Y S hk, he]), p2⟩ rfl hn hl.1 rfl (lv_room hst) d ⟨hc1, hc2⟩) hl hS K
end jCalls
section jMore
variable {X : jX} {Y : jY} {own : String} {cc : ByteArray} {ret : Option FieldType} {nL fr lo pc : Nat} {lv : List (Nat × Value)} {st : List Value} {S : jS} {β : Type} {z : β} {E1 E2 : Option β}
theorem j_caseN {P : Prop} {x c : Nat} (hE : (if x = c then E1 else E2) = some z) (kt : x = c → E1 = some z → P) (kf : ¬ x = c → E2 = some z → P) : P := by
  by_cases h : x = c
  · rw [if_pos h] at hE; exact kt h hE
  · rw [if_neg h] at hE; exact kf h hE
theorem j_null (C : jC X Y own cc ret nL fr lo) (d : decode cc pc = .ok (.aconst_null, 1)) (K : jJ X Y (pc + 1) lv (.null :: st) S) : jJ X Y pc lv st S := fun ls H locs hl hP hS => lv_null C.1 C.2.1 d (K ls H locs hl hP hS)
theorem j_ifnullN (C : jC X Y own cc ret nL fr lo) {off : Int} {tgt : Nat} (d : decode cc pc = .ok (.ifnull off, 3)) (ht : (pc : Int) + off = (tgt : Int)) (K : jJ X Y tgt lv st S) : jJ X Y pc lv (.null :: st) S := fun ls H locs hl hP hS => lv_ifnullN C.1 C.2.1 d ht (K ls H locs hl hP hS)
theorem j_ifnonnullN (C : jC X Y own cc ret nL fr lo) {off : Int} (d : decode cc pc = .ok (.ifnonnull off, 3)) (K : jJ X Y (pc + 3) lv st S) : jJ X Y pc lv (.null :: st) S := fun ls H locs hl hP hS => lv_ifnonnullN C.1 C.2.1 d (K ls H locs hl hP hS)
theorem j_aload_nN (C : jC X Y own cc ret nL fr lo) {k : Fin 4} (d : decode cc pc = .ok (.aload_n k, 1)) (q : Nat) (h : lv[q]? = some ((k : Nat), .null)) (K : jJ X Y (pc + 1) lv (.null :: st) S) : jJ X Y pc lv st S := fun ls H locs hl hP hS => lv_aload_nN C.1 C.2.1 d rfl (lv_at hl q h) (K ls H locs hl hP hS)
theorem j_astore_nN (C : jC X Y own cc ret nL fr lo) {k : Fin 4} {i : Nat} {lv' : List (Nat × Value)} (d : decode cc pc = .ok (.astore_n k, 1)) (hi : (k : Nat) = i) (hn : i < nL) (hf : (i, Value.null) :: lv.filter (fun q => !(q.1 == i) && !(q.1 + 1 == i && q.2.category == 2)) = lv') (K : jJ X Y (pc + 1) lv' st S) : jJ X Y pc lv (.null :: st) S := fun ls H locs hl hP hS => lv_astore_nN C.1 C.2.1 d hi hl (by rw [C.2.2.2.2.2.2.2.2.2.1]; exact hn) hf (fun ls' hl' => K ls' H locs hl' hP hS)
/-- an answer that is a cell, or none: by the cell's number, 0 for none -/
def jrf (ad : Nat → Nat) (r : Nat) : Value := match r with
  | 0 => .null
  | r + 1 => .ref (ad (r + 1))
theorem j_aret {n : String} (C : jC X Y own cc (some (.object n)) nL fr lo) {ad : Nat → Nat} {r : Nat} {v : Value} {z : Nat × jS} (Q : jRet X Y (some (jrf ad z.1), z.2)) (d : decode cc pc = .ok (.areturn, 1)) (hv : v = jrf ad r) (hE : some (r, S) = some z) : jJ X Y pc lv [v] S := by
  obtain ⟨hx, hb, hml, hown, hts, hK, hO, hlk, hr, -, -, -, -, -, hV⟩ := C
  cases hE
  subst hv
  intro ls H locs hl hP hS
  have h := W.aret (p := xp X) (l := xl X) (e := xe X) (R := xR X) (s := xs X) (m := xm X) (args := xa X) (below := xb X) (meth := xh X) (c := xc X) (H := H) (locs := locs) (cells := xk X) (slots := xn X) (ls := ls) (Qc := jQ Y (some (jrf ad r), S)) (free := yA Y) (v := jrf ad r) hx hb hr (Or.inl ⟨n, rfl⟩) (by cases r with
    | zero => exact Or.inl rfl
    | succ r => exact Or.inr ⟨_, rfl⟩) (fun t ht hW => ⟨rfl, ⟨by rw [ht]; exact hP, va_K.moved hW.alike hK, j_V hO hV ht hW hS⟩, hS.F ht⟩) hS.2.2 d hlk
  unfold jRet at Q
  show W _ _ _ _ _ _ _ _ _ _ _ _ _ _ (xQ X) _
  rw [Q]
  exact h
theorem j_aldq (C : jC X Y own cc ret nL fr lo) {k t n : Nat} {cA : ClassId} {Cn : String} {f : Nat → Option Nat} {i : Int32} {v : Value} (hk : k < yN Y) (he : yE Y k (S.1 k) (S.2 k) = .inl (cA, n, .inr (.inr (.inr (.inr f))))) (ht : (yt Y)[t]? = some (cA, .object Cn)) (hin : jb i n = true) (hv : va_rf (f i.toNatClampNeg) = v) (d : decode cc pc = .ok (.aaload, 1)) (K : jJ X Y (pc + 1) lv (v :: st) S) : jJ X Y pc lv (.int i :: .ref (yad Y k) :: st) S := by
  subst hv
  exact fun ls H locs hl hP hS => va_aldq C.1 C.2.1 C.2.2.2.2.2.1 hP k t (by rw [jw_get Y S hk, he]) ht (jb_in hin) d (K ls H locs hl hP hS)
end jMore
theorem j_mmax {X : jX} {Y : jY} {own : String} {cc : ByteArray} {ret : Option FieldType} {nL fr lo pc : Nat} {lv : List (Nat × Value)} {st : List Value} {S : jS} (C : jC X Y own cc ret nL fr lo) {idx : Nat} {x y : Int32} (hw1 : Cond.methodLink own idx Lib.Math.max.name ∈ jT) (hw2 : Cond.static Lib.Math.max.name ∈ jT) (hw3 : Cond.initialized "java/lang/Math" ∈ jT) (hw4 : Cond.code Lib.Math.max.name Lib.Math.max.code 2 (some .int) ∈ jT) (d : decode cc pc = .ok (.invokestatic idx, 3)) (hfr : 1 ≤ fr) (hlo : (st.map fun v => v.category).sum + 13 ≤ lo) (K : jJ X Y (pc + 3) lv (.int (if x < y then y else x) :: st) S) : jJ X Y pc lv (.int y :: .int x :: st) S := by
  obtain ⟨hx, hb, hml, hown, hts, hK, hO, hlk, hr, hL, hRf, hRl, hc1, hc2, hV⟩ := C
  intro ls H locs hl hP hS
  exact va_mmax (ls := ls) hx hb (by rw [hl.1, hL]; exact hml) hown (hts _ hw1) (hts _ hw2) (hts _ hw3) (hts _ hw4) (by rw [hRf]; exact hfr) (by rw [hRl]; exact hlo) hc1 hc2 d (K ls H locs hl hP hS)
theorem j_mmin {X : jX} {Y : jY} {own : String} {cc : ByteArray} {ret : Option FieldType} {nL fr lo pc : Nat} {lv : List (Nat × Value)} {st : List Value} {S : jS} (C : jC X Y own cc ret nL fr lo) {idx : Nat} {x y : Int32} (hw1 : Cond.methodLink own idx Lib.Math.min.name ∈ jT) (hw2 : Cond.static Lib.Math.min.name ∈ jT) (hw3 : Cond.initialized "java/lang/Math" ∈ jT) (hw4 : Cond.code Lib.Math.min.name Lib.Math.min.code 2 (some .int) ∈ jT) (d : decode cc pc = .ok (.invokestatic idx, 3)) (hfr : 1 ≤ fr) (hlo : (st.map fun v => v.category).sum + 13 ≤ lo) (K : jJ X Y (pc + 3) lv (.int (if y < x then y else x) :: st) S) : jJ X Y pc lv (.int y :: .int x :: st) S := by
  obtain ⟨hx, hb, hml, hown, hts, hK, hO, hlk, hr, hL, hRf, hRl, hc1, hc2, hV⟩ := C
  intro ls H locs hl hP hS
  exact va_mmin (ls := ls) hx hb (by rw [hl.1, hL]; exact hml) hown (hts _ hw1) (hts _ hw2) (hts _ hw3) (hts _ hw4) (by rw [hRf]; exact hfr) (by rw [hRl]; exact hlo) hc1 hc2 d (K ls H locs hl hP hS)
theorem j_mabs {X : jX} {Y : jY} {own : String} {cc : ByteArray} {ret : Option FieldType} {nL fr lo pc : Nat} {lv : List (Nat × Value)} {st : List Value} {S : jS} (C : jC X Y own cc ret nL fr lo) {idx : Nat} {x : Int32} (hw1 : Cond.methodLink own idx Lib.Math.abs.name ∈ jT) (hw2 : Cond.static Lib.Math.abs.name ∈ jT) (hw3 : Cond.initialized "java/lang/Math" ∈ jT) (hw4 : Cond.code Lib.Math.abs.name Lib.Math.abs.code 1 (some .int) ∈ jT) (d : decode cc pc = .ok (.invokestatic idx, 3)) (hfr : 1 ≤ fr) (hlo : (st.map fun v => v.category).sum + 13 ≤ lo) (K : jJ X Y (pc + 3) lv (.int (if 0 ≤ x then x else 0 - x) :: st) S) : jJ X Y pc lv (.int x :: st) S := by
  obtain ⟨hx, hb, hml, hown, hts, hK, hO, hlk, hr, hL, hRf, hRl, hc1, hc2, hV⟩ := C
  intro ls H locs hl hP hS
  exact va_mabs (ls := ls) hx hb (by rw [hl.1, hL]; exact hml) hown (hts _ hw1) (hts _ hw2) (hts _ hw3) (hts _ hw4) (by rw [hRf]; exact hfr) (by rw [hRl]; exact hlo) hc1 hc2 d (K ls H locs hl hP hS)
theorem j_mminl {X : jX} {Y : jY} {own : String} {cc : ByteArray} {ret : Option FieldType} {nL fr lo pc : Nat} {lv : List (Nat × Value)} {st : List Value} {S : jS} (C : jC X Y own cc ret nL fr lo) {idx : Nat} {x y : Int64} (hw1 : Cond.methodLink own idx Lib.MathLoose.min_long.x ∈ jT) (hw2 : Cond.static Lib.MathLoose.min_long.x ∈ jT) (hw3 : Cond.initialized "java/lang/Math" ∈ jT) (hw4 : Cond.code Lib.MathLoose.min_long.x Lib.MathLoose.min_long.code 4 (some .long) ∈ jT) (d : decode cc pc = .ok (.invokestatic idx, 3)) (hfr : 1 ≤ fr) (hlo : (st.map fun v => v.category).sum + 15 ≤ lo) (K : jJ X Y (pc + 3) lv (.long (if y < x then y else x) :: st) S) : jJ X Y pc lv (.long y :: .long x :: st) S := by
  obtain ⟨hx, hb, hml, hown, hts, hK, hO, hlk, hr, hL, hRf, hRl, hc1, hc2, hV⟩ := C
  intro ls H locs hl hP hS
  exact va_mmin_long (ls := ls) hx hb (by rw [hl.1, hL]; exact hml) hown (hts _ hw1) (hts _ hw2) (hts _ hw3) (hts _ hw4) (by rw [hRf]; exact hfr) (by rw [hRl]; exact hlo) hc1 hc2 d (K ls H locs hl hP hS)
/-! ===== constants: Strings, their bytes, static fields (cells that nobody writes) ===== -/
section jConst
variable {β : Type}
def jlk (b : Nat → Int32) (i : Int32) (n : Nat) (E : Int32 → Option β) : Option β := if jb i n = true then E (b i.toNatClampNeg) else none
def jbr (v : Int32) (S : jS) : Option (Int32 × jS) := if v.toInt8.toInt32 = v then some (v, S) else none
def jcr (v : Int32) (S : jS) : Option (Int32 × jS) := if v.toUInt32.toUInt16.toUInt32.toInt32 = v then some (v, S) else none
def jby (i : Nat) : Nat → Int32 := fun j => (([[115, 116, 114, 101, 101, 116], [104, 111, 117, 115, 101]] : List (List Int32)).getD i []).getD j 0
variable {X : jX} {Y : jY} {own : String} {cc : ByteArray} {ret : Option FieldType} {nL fr lo pc : Nat} {lv : List (Nat × Value)} {st : List Value} {S : jS} {z : β}
theorem j_i2c (C : jC X Y own cc ret nL fr lo) {x : Int32} (d : decode cc pc = .ok (.i2c, 1)) (K : jJ X Y (pc + 1) lv (.int (x.toUInt32 % 65536).toInt32 :: st) S) : jJ X Y pc lv (.int x :: st) S := fun ls H locs hl hP hS => lv_i2c C.1 C.2.1 d rfl (K ls H locs hl hP hS)
theorem j_getK (C : jC X Y own cc ret nL fr lo) {o n ds : String} {idx q : Nat} {v : Value} (hO : va_OF o n ds v q (yA Y) (xs X) (xs X).heap) (hw : Cond.fieldLink own idx o n ds ∈ jT) (d : decode cc pc = .ok (.getfield idx, 3)) (K : jJ X Y (pc + 3) lv (v :: st) S) : jJ X Y pc lv (.ref q :: st) S := fun ls H locs hl hP hS => vk_getf C.1 C.2.1 hO hS C.2.2.2.1 (C.2.2.2.2.1 _ hw) (fun _ h => h) d (K ls H locs hl hP hS)
theorem j_gets (C : jC X Y own cc ret nL fr lo) {o n ds : String} {idx : Nat} {v : Value} (hZ : va_Z o n ds v (yA Y) (xs X) (xs X).heap) (hw : Cond.fieldLink own idx o n ds ∈ jT) (d : decode cc pc = .ok (.getstatic idx, 3)) (K : jJ X Y (pc + 3) lv (v :: st) S) : jJ X Y pc lv st S := fun ls H locs hl hP hS => va_gets C.1 C.2.1 hZ hS C.2.2.2.1 (C.2.2.2.2.1 _ hw) (fun _ h => h) d (K ls H locs hl hP hS)
theorem j_tlen (C : jC X Y own cc ret nL fr lo) {ty : FieldType} {t N : Nat} {f : Nat → Value} {v : Int32} (hT : va_T ty t N f (yA Y) (xs X) (xs X).heap) (hv : Int32.ofNat N = v) (d : decode cc pc = .ok (.arraylength, 1)) (K : jJ X Y (pc + 1) lv (.int v :: st) S) : jJ X Y pc lv (.ref t :: st) S := fun ls H locs hl hP hS => va_tlen C.1 C.2.1 hT hS hv d (K ls H locs hl hP hS)
theorem j_tb (C : jC X Y own cc ret nL fr lo) {t N : Nat} {b : Nat → Int32} {i : Int32} {E : Int32 → Option β} (hT : va_T .byte t N (fun j => .int (b j)) (yA Y) (xs X) (xs X).heap) (d : decode cc pc = .ok (.baload, 1)) (hE : jlk b i N E = some z) (K : ∀ v : Int32, E v = some z → jJ X Y (pc + 1) lv (.int v :: st) S) : jJ X Y pc lv (.int i :: .ref t :: st) S := fun ls H locs hl hP hS => va_tb C.1 C.2.1 hT hS (jb_in (jif_some hE).1) rfl d (K _ (jif_some hE).2 ls H locs hl hP hS)
theorem j_ldcS (C : jC X Y own cc ret nL fr lo) {tx : String} {idx q : Nat} (hR : vk_R own idx tx q (xs X)) (d : decode cc pc = .ok (.ldc idx, 2)) (K : jJ X Y (pc + 2) lv (.ref q :: st) S) : jJ X Y pc lv st S := fun ls H locs hl hP hS => va_ldcS C.1 C.2.1 C.2.2.2.1 hR d (K ls H locs hl hP hS)
theorem j_bret (C : jC X Y own cc (some .byte) nL fr lo) {r : Int32} {z : Int32 × jS} (Q : jRet X Y (some (.int z.1), z.2)) (d : decode cc pc = .ok (.ireturn, 1)) (hE : jbr r S = some z) : jJ X Y pc lv [.int r] S := by
  obtain ⟨hx, hb, hml, hown, hts, hK, hO, hlk, hr, -, -, -, -, -, hV⟩ := C
  obtain ⟨hn, hE⟩ := jif_some hE
  cases hE
  intro ls H locs hl hP hS
  have h := W.zret (p := xp X) (l := xl X) (e := xe X) (R := xR X) (s := xs X) (m := xm X) (args := xa X) (below := xb X) (meth := xh X) (c := xc X) (H := H) (locs := locs) (cells := xk X) (slots := xn X) (ls := ls) (Qc := jQ Y (some (.int r), S)) (free := yA Y) (v := r) hx hb hr (congrArg Value.int hn) (fun t ht hW => ⟨rfl, ⟨by rw [ht]; exact hP, va_K.moved hW.alike hK, j_V hO hV ht hW hS⟩, hS.F ht⟩) hS.2.2 d hlk
  unfold jRet at Q
  show W _ _ _ _ _ _ _ _ _ _ _ _ _ _ (xQ X) _
  rw [Q]
  exact h
theorem j_cret (C : jC X Y own cc (some .char) nL fr lo) {r : Int32} {z : Int32 × jS} (Q : jRet X Y (some (.int z.1), z.2)) (d : decode cc pc = .ok (.ireturn, 1)) (hE : jcr r S = some z) : jJ X Y pc lv [.int r] S := by
  obtain ⟨hx, hb, hml, hown, hts, hK, hO, hlk, hr, -, -, -, -, -, hV⟩ := C
  obtain ⟨hn, hE⟩ := jif_some hE
  cases hE
  intro ls H locs hl hP hS
  have h := W.zret (p := xp X) (l := xl X) (e := xe X) (R := xR X) (s := xs X) (m := xm X) (args := xa X) (below := xb X) (meth := xh X) (c := xc X) (H := H) (locs := locs) (cells := xk X) (slots := xn X) (ls := ls) (Qc := jQ Y (some (.int r), S)) (free := yA Y) (v := r) hx hb hr (congrArg Value.int hn) (fun t ht hW => ⟨rfl, ⟨by rw [ht]; exact hP, va_K.moved hW.alike hK, j_V hO hV ht hW hS⟩, hS.F ht⟩) hS.2.2 d hlk
  unfold jRet at Q
  show W _ _ _ _ _ _ _ _ _ _ _ _ _ _ (xQ X) _
  rw [Q]
  exact h
/-- a call on a constant object -/
theorem j_callVK {stk : List Value} {y : MethodName} {bytes : ByteArray} {maxL fr1 lo1 idx n b : Nat} {r : Option FieldType} {Cn : String} {As : List Value} {z0 : Option Value × jS} (C : jC X Y own cc ret nL fr lo) (hM : Met (xl X) y (.code y bytes maxL r :: jT) { frames := fr1, cells := 0, slots := 0, locals := lo1 } (va_Pc (.ref b :: As) (jInv Y S)) (jQ Y z0) 0 0 (yA Y)) (hw1 : Cond.methodLink own idx y ∈ jT) (hw2 : Cond.instanceMethod y ∈ jT) (hw3 : Cond.selects Cn y y ∈ jT) (hw4 : Cond.initialized Cn ∈ jT) (hw5 : Cond.code y bytes maxL r ∈ jT) (hd : y.cls = Cn ∧ y.cls ≠ "java/lang/invoke/MethodHandle" ∧ y.cls ≠ "java/lang/invoke/VarHandle" ∧ (parseMethodDescriptor y.desc).map (fun d => d.parameters.length) = some n) (hn : As.length = n) (hrec : ∀ (H : Heap) (locs : List Loc), va_S (yA Y) (xs X).heap H locs → ∃ cell : Cell, H[b]? = some cell ∧ cell.vm.isStatics = false ∧ (xs X).vm.findClass Cn = some cell.cls) (hfr : fr1 + 1 ≤ fr) (hlo : 8 + (maxL + 11) + lo1 ≤ lo) (hst : (st.map fun v => v.category).sum ≤ 8) (hs : stk = As.reverse ++ .ref b :: st) (d : decode cc pc = .ok (.invokevirtual idx, 3)) (K : jJ X Y (pc + 3) lv (z0.1.toList ++ st) z0.2) : jJ X Y pc lv stk S := by
  obtain ⟨hx, hb, hml, hown, hts, hK, hO, hlk, hr, hL, hRf, hRl, hc1, hc2, hV⟩ := C
  subst hs
  intro ls H locs hl hP hS
  obtain ⟨p1, p2⟩ := j_preS (av := .ref b :: As) hO hK hV hP hS
  have hG : GoodIn jT (wsV own idx Cn y (.code y bytes maxL r :: jT)) := by
    intro w hw
    unfold wsV at hw
    rcases List.mem_append.mp hw with h | h
    · simp only [List.mem_cons, List.not_mem_nil, or_false] at h
      rcases h with rfl | rfl | rfl | rfl
      · exact jT_good hw1
      · exact jT_good hw2
      · exact jT_good hw3
      · exact jT_good hw4
    · exact jT_goodIn0 hw5 w h
  exact j_run (va_runV (As := As) (rest := st) ⟨hx, hb, by rw [hml, ← hL], hown, hts⟩ hM (cwV n hts hG rfl rfl rfl hd ⟨by rw [hRf]; exact hfr, by rw [hRl]; exact hlo⟩) ⟨p1, hrec H locs hS, p2⟩ rfl hn hl.1 rfl (lv_room hst) d ⟨hc1, hc2⟩) hl hS K
end jConst
/-! ===== the script: an array that nobody writes ===== -/
section jScript
variable {β : Type} {X : jX} {Y : jY} {own : String} {cc : ByteArray} {ret : Option FieldType} {nL fr lo pc : Nat} {lv : List (Nat × Value)} {st : List Value} {S : jS} {z : β}
def jScr (X : jX) (Y : jY) (b L : Nat) (sc : Nat → Int32) : Prop := va_X b L sc (xs X) (xs X).heap ∧ b < (xs X).heap.size ∧ ¬ yA Y b
theorem j_slen (C : jC X Y own cc ret nL fr lo) {b L : Nat} {sc : Nat → Int32} (hX : jScr X Y b L sc) (d : decode cc pc = .ok (.arraylength, 1)) (K : jJ X Y (pc + 1) lv (.int (Int32.ofNat L) :: st) S) : jJ X Y pc lv (.ref b :: st) S := fun ls H locs hl hP hS => va_slen C.1 C.2.1 hX.1 hX.2.1 hX.2.2 hS d (K ls H locs hl hP hS)
theorem j_sld (C : jC X Y own cc ret nL fr lo) {b L : Nat} {sc : Nat → Int32} (hX : jScr X Y b L sc) {i : Int32} {E : Int32 → Option β} (d : decode cc pc = .ok (.iaload, 1)) (hE : jlk sc i L E = some z) (K : ∀ v : Int32, E v = some z → jJ X Y (pc + 1) lv (.int v :: st) S) : jJ X Y pc lv (.int i :: .ref b :: st) S := fun ls H locs hl hP hS => va_sld C.1 C.2.1 hX.1 hX.2.1 hX.2.2 hS (jb_in (jif_some hE).1) d (K _ (jif_some hE).2 ls H locs hl hP hS)
end jScript
