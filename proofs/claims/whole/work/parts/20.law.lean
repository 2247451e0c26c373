/-! THE CLAIM OUT OF ONE WALK OF THE LAW'S BODY. Your part is whole_start (and what it stands on); all else here is the same for every law, but numbers. -/
def R_law : String := "OddFridaysLaw"
def lw_P (b : Addr) (xs : List Int32) (args : Array Value) (s : State) : Prop := args = #[.ref b] ∧ s.IntsAt b xs ∧ xs.length ≤ 256 ∧ (Jvm.Cond.and given_1 narrow_1).before args s = true
def lw_Q (_ : Array Value) (s : State) (o : Outcome) (t : State) : Prop := o = .returned (some (.int 1)) ∧ Framed s o t [] 600000 7302250
def lw_Z (below : List Frame) (a : Array Value) (s : State) : State → Prop := fun t => ∃ o, t.status = .running ∧ Ended t below o ∧ lw_Q a s o t
/-- the law's own end, with 1 on the stack, nothing written that was there before, its room as the claim has it -/
theorem lw_ret {p : Program} {l : Launch} {e : Env} {s : State} {m : MethodId} {below : List Frame} {meth : Method} {c : Code} {b : Nat} (hx : p.tables.exec = Jvm.exec) (hb : c.code = code) (hr : meth.sig.returnType = ret) (hlocks : meth.locks = false) {pc : Nat} {H : Heap} {ls : Array Slot} (hdg : decode code pc = .ok (.ireturn, 1)) : W p l e room_1 s m #[Value.ref b] below meth c H [] 600000 7302250 (lw_Z below #[Value.ref b] s) (F0 m pc ls [.int 1]) := by
  intro T hT X
  obtain ⟨fs, hret, hrun, hended, hW, hframe⟩ := X.leave (v := some (.int 1)) (hlocks := hlocks) (fun h => by rw [hr] at h; cases h)
  have hmeth' : T.vm.method? m = some meth := X.method'
  refine ⟨T.setFrames fs, ?_, .returned (some (.int 1)), hrun, hended, rfl, ⟨_, rfl⟩, hW, hframe⟩
  jvm_step X.here [X.here.top, hx, hb, hdg, hmeth', hr, ret, narrow_b1]
  (try refine ⟨rfl, ?_⟩); (try refine ⟨rfl, ?_⟩)
  first | (intro acts; rw [hret _ acts rfl rfl rfl]) | rw [hret _ _ rfl rfl rfl]
  exact Steps.refl _
/-- what holds at the law's entry: the machine, the code, the tables' words (any of lw_tbl by 'hts w (by decide +kernel)'), the script of L ints xs at the cell b, what the Statement gives of the start (any of its parts by flat_of_before) -/
def lw_At (p : Program) (s : State) (m : MethodId) (meth : Method) (c : Code) (b L : Nat) (xs : Nat → Int32) : Prop :=
  p.tables.exec = Jvm.exec ∧ c.code = code ∧ meth.sig.returnType = ret ∧ c.maxLocals = 4 ∧ s.vm.findClass R_law = some m.cls ∧ (∀ w ∈ lw_tbl, w.before #[Value.ref b] s = true) ∧ va_X b L xs s s.heap ∧ b < s.heap.size ∧ meth.locks = false ∧ (Jvm.Cond.and given_1 narrow_1).before #[Value.ref b] s = true

def jLaw (X : jX) (Y : jY) : Prop := xQ X = lw_Z (xb X) (xa X) (xs X) ∧ xR X = room_1 ∧ (∃ b, xa X = #[Value.ref b]) ∧ xk X ≤ 600000 ∧ xn X ≤ 7302250 ∧ ∀ q, yA Y q → (xs X).heap.size ≤ q
theorem j_lawret {X : jX} {Y : jY} {nL fr lo pc : Nat} {lv : List (Nat × Value)} {S : jS} (C : jC X Y RL cL_law ret nL fr lo) (Q : jLaw X Y) (d : decode cL_law pc = .ok (.ireturn, 1)) : jJ X Y pc lv [.int 1] S := by
  obtain ⟨hx, hb, hml, hown, hts, hK, hO, hlk, hr, -, -, -, -, -, hV⟩ := C
  obtain ⟨hQ, hR, ⟨b, ha⟩, hk, hn, hA⟩ := Q
  intro ls H locs hl hP hS
  refine va_forget (fun q hq => hA _ (hS.2.2 q hq)) ?_
  refine W.widen hk hn ?_
  have h := lw_ret (p := xp X) (l := xl X) (e := xe X) (s := xs X) (m := xm X) (below := xb X) (meth := xh X) (c := xc X) (b := b) (H := H) (ls := ls) hx hb hr hlk d
  show W _ _ _ (xR X) _ _ (xa X) _ _ _ _ _ _ _ (xQ X) _
  rw [hQ, hR, ha]
  exact h
theorem k_L_13_X11_street {X : jX} {D : va_G} {ad : Nat → Nat} {cy : Nat → ClassId} {cc : ByteArray} {ret : Option FieldType} {nL fr lo pc : Nat} {lv : List (Nat × Value)} {st : List Value} {S : jS} {β : Type} {z : β} (C : jC X (jMain D ad cy) RL cc ret nL fr lo) {a0 : Int32} {a1 : Int32} {E : Int32 → jS → Option β} (d : decode cc pc = .ok (.invokevirtual 13, 3)) (hE : jcl (f_X11_street a0 a1 S) E = some z) (hfr : 2 ≤ fr) (hlo : 45 ≤ lo) (hst : (st.map fun v => v.category).sum ≤ 8) (K : ∀ (v : Int32) (S1 : jS), E v S1 = some z → jJ X (jMain D ad cy) (pc + 3) lv (.int v :: st) S1) : jJ X (jMain D ad cy) pc lv (.int a1 :: .int a0 :: .ref (ad 0) :: st) S := by
  obtain ⟨v, h1, h2⟩ := jcl_some hE
  exact j_callV (k := 0) (ci := 11) (T := TX11) (N := 16) (n := 2) (As := [.int a0, .int a1]) C (c_X11_street C.2.2.2.2.2.2.1 a0 a1 S h1) tw_338 tw_339 tw_340 tw_69 tw_341 (by decide +kernel) rfl (by decide : 0 < 56) rfl rfl hfr hlo hst rfl d (K _ _ h2)
theorem k_L_17_X12_street {X : jX} {D : va_G} {ad : Nat → Nat} {cy : Nat → ClassId} {cc : ByteArray} {ret : Option FieldType} {nL fr lo pc : Nat} {lv : List (Nat × Value)} {st : List Value} {S : jS} {β : Type} {z : β} (C : jC X (jMain D ad cy) RL cc ret nL fr lo) {a0 : Int32} {a1 : Int32} {E : Int32 → jS → Option β} (d : decode cc pc = .ok (.invokevirtual 17, 3)) (hE : jcl (f_X12_street a0 a1 S) E = some z) (hfr : 3 ≤ fr) (hlo : 69 ≤ lo) (hst : (st.map fun v => v.category).sum ≤ 8) (K : ∀ (v : Int32) (S1 : jS), E v S1 = some z → jJ X (jMain D ad cy) (pc + 3) lv (.int v :: st) S1) : jJ X (jMain D ad cy) pc lv (.int a1 :: .int a0 :: .ref (ad 41) :: st) S := by
  obtain ⟨v, h1, h2⟩ := jcl_some hE
  exact j_callV (k := 41) (ci := 12) (T := TX12) (N := 25) (n := 2) (As := [.int a0, .int a1]) C (c_X12_street C.2.2.2.2.2.2.1 a0 a1 S h1) tw_949 tw_950 tw_951 tw_81 tw_952 (by decide +kernel) rfl (by decide : 41 < 56) rfl rfl hfr hlo hst rfl d (K _ _ h2)
theorem k_L_18_X11_rule {X : jX} {D : va_G} {ad : Nat → Nat} {cy : Nat → ClassId} {cc : ByteArray} {ret : Option FieldType} {nL fr lo pc : Nat} {lv : List (Nat × Value)} {st : List Value} {S : jS} {β : Type} {z : β} (C : jC X (jMain D ad cy) RL cc ret nL fr lo) {a0 : Int32} {a1 : Int32} {E : Int32 → jS → Option β} (d : decode cc pc = .ok (.invokevirtual 18, 3)) (hE : jcl (f_X11_rule a0 a1 S) E = some z) (hfr : 3 ≤ fr) (hlo : 92 ≤ lo) (hst : (st.map fun v => v.category).sum ≤ 8) (K : ∀ (v : Int32) (S1 : jS), E v S1 = some z → jJ X (jMain D ad cy) (pc + 3) lv (.int v :: st) S1) : jJ X (jMain D ad cy) pc lv (.int a1 :: .int a0 :: .ref (ad 0) :: st) S := by
  obtain ⟨v, h1, h2⟩ := jcl_some hE
  exact j_callV (k := 0) (ci := 11) (T := TX11) (N := 16) (n := 2) (As := [.int a0, .int a1]) C (c_X11_rule C.2.2.2.2.2.2.1 a0 a1 S h1) tw_357 tw_358 tw_359 tw_69 tw_360 (by decide +kernel) rfl (by decide : 0 < 56) rfl rfl hfr hlo hst rfl d (K _ _ h2)
theorem k_L_21_X12_rule {X : jX} {D : va_G} {ad : Nat → Nat} {cy : Nat → ClassId} {cc : ByteArray} {ret : Option FieldType} {nL fr lo pc : Nat} {lv : List (Nat × Value)} {st : List Value} {S : jS} {β : Type} {z : β} (C : jC X (jMain D ad cy) RL cc ret nL fr lo) {a0 : Int32} {a1 : Int32} {E : Int32 → jS → Option β} (d : decode cc pc = .ok (.invokevirtual 21, 3)) (hE : jcl (f_X12_rule a0 a1 S) E = some z) (hfr : 3 ≤ fr) (hlo : 69 ≤ lo) (hst : (st.map fun v => v.category).sum ≤ 8) (K : ∀ (v : Int32) (S1 : jS), E v S1 = some z → jJ X (jMain D ad cy) (pc + 3) lv (.int v :: st) S1) : jJ X (jMain D ad cy) pc lv (.int a1 :: .int a0 :: .ref (ad 41) :: st) S := by
  obtain ⟨v, h1, h2⟩ := jcl_some hE
  exact j_callV (k := 41) (ci := 12) (T := TX12) (N := 25) (n := 2) (As := [.int a0, .int a1]) C (c_X12_rule C.2.2.2.2.2.2.1 a0 a1 S h1) tw_975 tw_976 tw_977 tw_81 tw_978 (by decide +kernel) rfl (by decide : 41 < 56) rfl rfl hfr hlo hst rfl d (K _ _ h2)
theorem k_L_22_X11_house {X : jX} {D : va_G} {ad : Nat → Nat} {cy : Nat → ClassId} {cc : ByteArray} {ret : Option FieldType} {nL fr lo pc : Nat} {lv : List (Nat × Value)} {st : List Value} {S : jS} {β : Type} {z : β} (C : jC X (jMain D ad cy) RL cc ret nL fr lo) {a0 : Int32} {a1 : Int32} {E : Int32 → jS → Option β} (d : decode cc pc = .ok (.invokevirtual 22, 3)) (hE : jcl (f_X11_house a0 a1 S) E = some z) (hfr : 3 ≤ fr) (hlo : 92 ≤ lo) (hst : (st.map fun v => v.category).sum ≤ 8) (K : ∀ (v : Int32) (S1 : jS), E v S1 = some z → jJ X (jMain D ad cy) (pc + 3) lv (.int v :: st) S1) : jJ X (jMain D ad cy) pc lv (.int a1 :: .int a0 :: .ref (ad 0) :: st) S := by
  obtain ⟨v, h1, h2⟩ := jcl_some hE
  exact j_callV (k := 0) (ci := 11) (T := TX11) (N := 16) (n := 2) (As := [.int a0, .int a1]) C (c_X11_house C.2.2.2.2.2.2.1 a0 a1 S h1) tw_368 tw_369 tw_370 tw_69 tw_371 (by decide +kernel) rfl (by decide : 0 < 56) rfl rfl hfr hlo hst rfl d (K _ _ h2)
theorem k_L_25_X12_house {X : jX} {D : va_G} {ad : Nat → Nat} {cy : Nat → ClassId} {cc : ByteArray} {ret : Option FieldType} {nL fr lo pc : Nat} {lv : List (Nat × Value)} {st : List Value} {S : jS} {β : Type} {z : β} (C : jC X (jMain D ad cy) RL cc ret nL fr lo) {a0 : Int32} {a1 : Int32} {E : Int32 → jS → Option β} (d : decode cc pc = .ok (.invokevirtual 25, 3)) (hE : jcl (f_X12_house a0 a1 S) E = some z) (hfr : 3 ≤ fr) (hlo : 68 ≤ lo) (hst : (st.map fun v => v.category).sum ≤ 8) (K : ∀ (v : Int32) (S1 : jS), E v S1 = some z → jJ X (jMain D ad cy) (pc + 3) lv (.int v :: st) S1) : jJ X (jMain D ad cy) pc lv (.int a1 :: .int a0 :: .ref (ad 41) :: st) S := by
  obtain ⟨v, h1, h2⟩ := jcl_some hE
  exact j_callV (k := 41) (ci := 12) (T := TX12) (N := 25) (n := 2) (As := [.int a0, .int a1]) C (c_X12_house C.2.2.2.2.2.2.1 a0 a1 S h1) tw_987 tw_988 tw_989 tw_81 tw_990 (by decide +kernel) rfl (by decide : 41 < 56) rfl rfl hfr hlo hst rfl d (K _ _ h2)
theorem k_L_26_X11_birthday {X : jX} {D : va_G} {ad : Nat → Nat} {cy : Nat → ClassId} {cc : ByteArray} {ret : Option FieldType} {nL fr lo pc : Nat} {lv : List (Nat × Value)} {st : List Value} {S : jS} {β : Type} {z : β} (C : jC X (jMain D ad cy) RL cc ret nL fr lo) {a0 : Int32} {E : Int32 → jS → Option β} (d : decode cc pc = .ok (.invokevirtual 26, 3)) (hE : jcl (f_X11_birthday a0 S) E = some z) (hfr : 3 ≤ fr) (hlo : 91 ≤ lo) (hst : (st.map fun v => v.category).sum ≤ 8) (K : ∀ (v : Int32) (S1 : jS), E v S1 = some z → jJ X (jMain D ad cy) (pc + 3) lv (.int v :: st) S1) : jJ X (jMain D ad cy) pc lv (.int a0 :: .ref (ad 0) :: st) S := by
  obtain ⟨v, h1, h2⟩ := jcl_some hE
  exact j_callV (k := 0) (ci := 11) (T := TX11) (N := 16) (n := 1) (As := [.int a0]) C (c_X11_birthday C.2.2.2.2.2.2.1 a0 S h1) tw_375 tw_376 tw_377 tw_69 tw_378 (by decide +kernel) rfl (by decide : 0 < 56) rfl rfl hfr hlo hst rfl d (K _ _ h2)
theorem k_L_30_X12_birthday {X : jX} {D : va_G} {ad : Nat → Nat} {cy : Nat → ClassId} {cc : ByteArray} {ret : Option FieldType} {nL fr lo pc : Nat} {lv : List (Nat × Value)} {st : List Value} {S : jS} {β : Type} {z : β} (C : jC X (jMain D ad cy) RL cc ret nL fr lo) {a0 : Int32} {E : Int32 → jS → Option β} (d : decode cc pc = .ok (.invokevirtual 30, 3)) (hE : jcl (f_X12_birthday a0 S) E = some z) (hfr : 3 ≤ fr) (hlo : 66 ≤ lo) (hst : (st.map fun v => v.category).sum ≤ 8) (K : ∀ (v : Int32) (S1 : jS), E v S1 = some z → jJ X (jMain D ad cy) (pc + 3) lv (.int v :: st) S1) : jJ X (jMain D ad cy) pc lv (.int a0 :: .ref (ad 41) :: st) S := by
  obtain ⟨v, h1, h2⟩ := jcl_some hE
  exact j_callV (k := 41) (ci := 12) (T := TX12) (N := 25) (n := 1) (As := [.int a0]) C (c_X12_birthday C.2.2.2.2.2.2.1 a0 S h1) tw_996 tw_997 tw_998 tw_81 tw_999 (by decide +kernel) rfl (by decide : 41 < 56) rfl rfl hfr hlo hst rfl d (K _ _ h2)
theorem k_L_31_X11_swap {X : jX} {D : va_G} {ad : Nat → Nat} {cy : Nat → ClassId} {cc : ByteArray} {ret : Option FieldType} {nL fr lo pc : Nat} {lv : List (Nat × Value)} {st : List Value} {S : jS} {β : Type} {z : β} (C : jC X (jMain D ad cy) RL cc ret nL fr lo) {a0 : Int32} {a1 : Int32} {E : Int32 → jS → Option β} (d : decode cc pc = .ok (.invokevirtual 31, 3)) (hE : jcl (f_X11_swap a0 a1 S) E = some z) (hfr : 3 ≤ fr) (hlo : 93 ≤ lo) (hst : (st.map fun v => v.category).sum ≤ 8) (K : ∀ (v : Int32) (S1 : jS), E v S1 = some z → jJ X (jMain D ad cy) (pc + 3) lv (.int v :: st) S1) : jJ X (jMain D ad cy) pc lv (.int a1 :: .int a0 :: .ref (ad 0) :: st) S := by
  obtain ⟨v, h1, h2⟩ := jcl_some hE
  exact j_callV (k := 0) (ci := 11) (T := TX11) (N := 16) (n := 2) (As := [.int a0, .int a1]) C (c_X11_swap C.2.2.2.2.2.2.1 a0 a1 S h1) tw_383 tw_384 tw_385 tw_69 tw_386 (by decide +kernel) rfl (by decide : 0 < 56) rfl rfl hfr hlo hst rfl d (K _ _ h2)
theorem k_L_34_X12_swap {X : jX} {D : va_G} {ad : Nat → Nat} {cy : Nat → ClassId} {cc : ByteArray} {ret : Option FieldType} {nL fr lo pc : Nat} {lv : List (Nat × Value)} {st : List Value} {S : jS} {β : Type} {z : β} (C : jC X (jMain D ad cy) RL cc ret nL fr lo) {a0 : Int32} {a1 : Int32} {E : Int32 → jS → Option β} (d : decode cc pc = .ok (.invokevirtual 34, 3)) (hE : jcl (f_X12_swap a0 a1 S) E = some z) (hfr : 3 ≤ fr) (hlo : 68 ≤ lo) (hst : (st.map fun v => v.category).sum ≤ 8) (K : ∀ (v : Int32) (S1 : jS), E v S1 = some z → jJ X (jMain D ad cy) (pc + 3) lv (.int v :: st) S1) : jJ X (jMain D ad cy) pc lv (.int a1 :: .int a0 :: .ref (ad 41) :: st) S := by
  obtain ⟨v, h1, h2⟩ := jcl_some hE
  exact j_callV (k := 41) (ci := 12) (T := TX12) (N := 25) (n := 2) (As := [.int a0, .int a1]) C (c_X12_swap C.2.2.2.2.2.2.1 a0 a1 S h1) tw_1004 tw_1005 tw_1006 tw_81 tw_1007 (by decide +kernel) rfl (by decide : 41 < 56) rfl rfl hfr hlo hst rfl d (K _ _ h2)
theorem k_L_35_X11_undo {X : jX} {D : va_G} {ad : Nat → Nat} {cy : Nat → ClassId} {cc : ByteArray} {ret : Option FieldType} {nL fr lo pc : Nat} {lv : List (Nat × Value)} {st : List Value} {S : jS} {β : Type} {z : β} (C : jC X (jMain D ad cy) RL cc ret nL fr lo)  {E : Int32 → jS → Option β} (d : decode cc pc = .ok (.invokevirtual 35, 3)) (hE : jcl (f_X11_undo  S) E = some z) (hfr : 3 ≤ fr) (hlo : 89 ≤ lo) (hst : (st.map fun v => v.category).sum ≤ 8) (K : ∀ (v : Int32) (S1 : jS), E v S1 = some z → jJ X (jMain D ad cy) (pc + 3) lv (.int v :: st) S1) : jJ X (jMain D ad cy) pc lv (.ref (ad 0) :: st) S := by
  obtain ⟨v, h1, h2⟩ := jcl_some hE
  exact j_callV (k := 0) (ci := 11) (T := TX11) (N := 16) (n := 0) (As := []) C (c_X11_undo C.2.2.2.2.2.2.1  S h1) tw_387 tw_388 tw_389 tw_69 tw_390 (by decide +kernel) rfl (by decide : 0 < 56) rfl rfl hfr hlo hst rfl d (K _ _ h2)
theorem k_L_39_X12_undo {X : jX} {D : va_G} {ad : Nat → Nat} {cy : Nat → ClassId} {cc : ByteArray} {ret : Option FieldType} {nL fr lo pc : Nat} {lv : List (Nat × Value)} {st : List Value} {S : jS} {β : Type} {z : β} (C : jC X (jMain D ad cy) RL cc ret nL fr lo)  {E : Int32 → jS → Option β} (d : decode cc pc = .ok (.invokevirtual 39, 3)) (hE : jcl (f_X12_undo  S) E = some z) (hfr : 2 ≤ fr) (hlo : 43 ≤ lo) (hst : (st.map fun v => v.category).sum ≤ 8) (K : ∀ (v : Int32) (S1 : jS), E v S1 = some z → jJ X (jMain D ad cy) (pc + 3) lv (.int v :: st) S1) : jJ X (jMain D ad cy) pc lv (.ref (ad 41) :: st) S := by
  obtain ⟨v, h1, h2⟩ := jcl_some hE
  exact j_callV (k := 41) (ci := 12) (T := TX12) (N := 25) (n := 0) (As := []) C (c_X12_undo C.2.2.2.2.2.2.1  S h1) tw_1008 tw_1009 tw_1010 tw_81 tw_1011 (by decide +kernel) rfl (by decide : 41 < 56) rfl rfl hfr hlo hst rfl d (K _ _ h2)
theorem k_L_40_X11_type {X : jX} {D : va_G} {ad : Nat → Nat} {cy : Nat → ClassId} {cc : ByteArray} {ret : Option FieldType} {nL fr lo pc : Nat} {lv : List (Nat × Value)} {st : List Value} {S : jS} {β : Type} {z : β} (C : jC X (jMain D ad cy) RL cc ret nL fr lo) {a0 : Int32} {E : Int32 → jS → Option β} (d : decode cc pc = .ok (.invokevirtual 40, 3)) (hE : jcl (f_X11_type a0 S) E = some z) (hfr : 2 ≤ fr) (hlo : 42 ≤ lo) (hst : (st.map fun v => v.category).sum ≤ 8) (K : ∀ (v : Int32) (S1 : jS), E v S1 = some z → jJ X (jMain D ad cy) (pc + 3) lv (.int v :: st) S1) : jJ X (jMain D ad cy) pc lv (.int a0 :: .ref (ad 0) :: st) S := by
  obtain ⟨v, h1, h2⟩ := jcl_some hE
  exact j_callV (k := 0) (ci := 11) (T := TX11) (N := 16) (n := 1) (As := [.int a0]) C (c_X11_type C.2.2.2.2.2.2.1 a0 S h1) tw_395 tw_396 tw_397 tw_69 tw_398 (by decide +kernel) rfl (by decide : 0 < 56) rfl rfl hfr hlo hst rfl d (K _ _ h2)
theorem k_L_43_X12_type {X : jX} {D : va_G} {ad : Nat → Nat} {cy : Nat → ClassId} {cc : ByteArray} {ret : Option FieldType} {nL fr lo pc : Nat} {lv : List (Nat × Value)} {st : List Value} {S : jS} {β : Type} {z : β} (C : jC X (jMain D ad cy) RL cc ret nL fr lo) {a0 : Int32} {E : Int32 → jS → Option β} (d : decode cc pc = .ok (.invokevirtual 43, 3)) (hE : jcl (f_X12_type a0 S) E = some z) (hfr : 2 ≤ fr) (hlo : 46 ≤ lo) (hst : (st.map fun v => v.category).sum ≤ 8) (K : ∀ (v : Int32) (S1 : jS), E v S1 = some z → jJ X (jMain D ad cy) (pc + 3) lv (.int v :: st) S1) : jJ X (jMain D ad cy) pc lv (.int a0 :: .ref (ad 41) :: st) S := by
  obtain ⟨v, h1, h2⟩ := jcl_some hE
  exact j_callV (k := 41) (ci := 12) (T := TX12) (N := 25) (n := 1) (As := [.int a0]) C (c_X12_type C.2.2.2.2.2.2.1 a0 S h1) tw_1214 tw_1215 tw_1216 tw_81 tw_1217 (by decide +kernel) rfl (by decide : 41 < 56) rfl rfl hfr hlo hst rfl d (K _ _ h2)
theorem k_L_44_X11_clear {X : jX} {D : va_G} {ad : Nat → Nat} {cy : Nat → ClassId} {cc : ByteArray} {ret : Option FieldType} {nL fr lo pc : Nat} {lv : List (Nat × Value)} {st : List Value} {S : jS} {β : Type} {z : β} (C : jC X (jMain D ad cy) RL cc ret nL fr lo)  {E : Int32 → jS → Option β} (d : decode cc pc = .ok (.invokevirtual 44, 3)) (hE : jcl (f_X11_clear  S) E = some z) (hfr : 1 ≤ fr) (hlo : 21 ≤ lo) (hst : (st.map fun v => v.category).sum ≤ 8) (K : ∀ (v : Int32) (S1 : jS), E v S1 = some z → jJ X (jMain D ad cy) (pc + 3) lv (.int v :: st) S1) : jJ X (jMain D ad cy) pc lv (.ref (ad 0) :: st) S := by
  obtain ⟨v, h1, h2⟩ := jcl_some hE
  exact j_callV (k := 0) (ci := 11) (T := TX11) (N := 16) (n := 0) (As := []) C (c_X11_clear C.2.2.2.2.2.2.1  S h1) tw_407 tw_408 tw_409 tw_69 tw_410 (by decide +kernel) rfl (by decide : 0 < 56) rfl rfl hfr hlo hst rfl d (K _ _ h2)
theorem k_L_47_X12_clear {X : jX} {D : va_G} {ad : Nat → Nat} {cy : Nat → ClassId} {cc : ByteArray} {ret : Option FieldType} {nL fr lo pc : Nat} {lv : List (Nat × Value)} {st : List Value} {S : jS} {β : Type} {z : β} (C : jC X (jMain D ad cy) RL cc ret nL fr lo)  {E : Int32 → jS → Option β} (d : decode cc pc = .ok (.invokevirtual 47, 3)) (hE : jcl (f_X12_clear  S) E = some z) (hfr : 1 ≤ fr) (hlo : 21 ≤ lo) (hst : (st.map fun v => v.category).sum ≤ 8) (K : ∀ (v : Int32) (S1 : jS), E v S1 = some z → jJ X (jMain D ad cy) (pc + 3) lv (.int v :: st) S1) : jJ X (jMain D ad cy) pc lv (.ref (ad 41) :: st) S := by
  obtain ⟨v, h1, h2⟩ := jcl_some hE
  exact j_callV (k := 41) (ci := 12) (T := TX12) (N := 25) (n := 0) (As := []) C (c_X12_clear C.2.2.2.2.2.2.1  S h1) tw_1219 tw_1220 tw_1221 tw_81 tw_1222 (by decide +kernel) rfl (by decide : 41 < 56) rfl rfl hfr hlo hst rfl d (K _ _ h2)
theorem k_L_48_X11_read {X : jX} {D : va_G} {ad : Nat → Nat} {cy : Nat → ClassId} {cc : ByteArray} {ret : Option FieldType} {nL fr lo pc : Nat} {lv : List (Nat × Value)} {st : List Value} {S : jS} {β : Type} {z : β} (C : jC X (jMain D ad cy) RL cc ret nL fr lo)  {E : Int32 → jS → Option β} (d : decode cc pc = .ok (.invokevirtual 48, 3)) (hE : jcl (f_X11_read  S) E = some z) (hfr : 9 ≤ fr) (hlo : 191 ≤ lo) (hst : (st.map fun v => v.category).sum ≤ 8) (K : ∀ (v : Int32) (S1 : jS), E v S1 = some z → jJ X (jMain D ad cy) (pc + 3) lv (.int v :: st) S1) : jJ X (jMain D ad cy) pc lv (.ref (ad 0) :: st) S := by
  obtain ⟨v, h1, h2⟩ := jcl_some hE
  exact j_callV (k := 0) (ci := 11) (T := TX11) (N := 16) (n := 0) (As := []) C (c_X11_read C.2.2.2.2.2.2.1  S h1) tw_411 tw_412 tw_413 tw_69 tw_414 (by decide +kernel) rfl (by decide : 0 < 56) rfl rfl hfr hlo hst rfl d (K _ _ h2)
theorem k_L_51_X12_read {X : jX} {D : va_G} {ad : Nat → Nat} {cy : Nat → ClassId} {cc : ByteArray} {ret : Option FieldType} {nL fr lo pc : Nat} {lv : List (Nat × Value)} {st : List Value} {S : jS} {β : Type} {z : β} (C : jC X (jMain D ad cy) RL cc ret nL fr lo)  {E : Int32 → jS → Option β} (d : decode cc pc = .ok (.invokevirtual 51, 3)) (hE : jcl (f_X12_read  S) E = some z) (hfr : 7 ≤ fr) (hlo : 154 ≤ lo) (hst : (st.map fun v => v.category).sum ≤ 8) (K : ∀ (v : Int32) (S1 : jS), E v S1 = some z → jJ X (jMain D ad cy) (pc + 3) lv (.int v :: st) S1) : jJ X (jMain D ad cy) pc lv (.ref (ad 41) :: st) S := by
  obtain ⟨v, h1, h2⟩ := jcl_some hE
  exact j_callV (k := 41) (ci := 12) (T := TX12) (N := 25) (n := 0) (As := []) C (c_X12_read C.2.2.2.2.2.2.1  S h1) tw_1223 tw_1224 tw_1225 tw_81 tw_1226 (by decide +kernel) rfl (by decide : 41 < 56) rfl rfl hfr hlo hst rfl d (K _ _ h2)
theorem k_L_52_X11_of {X : jX} {D : va_G} {ad : Nat → Nat} {cy : Nat → ClassId} {cc : ByteArray} {ret : Option FieldType} {nL fr lo pc : Nat} {lv : List (Nat × Value)} {st : List Value} {S : jS} {β : Type} {z : β} (C : jC X (jMain D ad cy) RL cc ret nL fr lo) {a0 : Int32} {a1 : Int32} {E : Int32 → jS → Option β} (d : decode cc pc = .ok (.invokevirtual 52, 3)) (hE : jcl (f_X11_of a0 a1 S) E = some z) (hfr : 6 ≤ fr) (hlo : 142 ≤ lo) (hst : (st.map fun v => v.category).sum ≤ 8) (K : ∀ (v : Int32) (S1 : jS), E v S1 = some z → jJ X (jMain D ad cy) (pc + 3) lv (.int v :: st) S1) : jJ X (jMain D ad cy) pc lv (.int a1 :: .int a0 :: .ref (ad 0) :: st) S := by
  obtain ⟨v, h1, h2⟩ := jcl_some hE
  exact j_callV (k := 0) (ci := 11) (T := TX11) (N := 16) (n := 2) (As := [.int a0, .int a1]) C (c_X11_of C.2.2.2.2.2.2.1 a0 a1 S h1) tw_517 tw_518 tw_519 tw_69 tw_520 (by decide +kernel) rfl (by decide : 0 < 56) rfl rfl hfr hlo hst rfl d (K _ _ h2)
theorem k_L_55_X12_of {X : jX} {D : va_G} {ad : Nat → Nat} {cy : Nat → ClassId} {cc : ByteArray} {ret : Option FieldType} {nL fr lo pc : Nat} {lv : List (Nat × Value)} {st : List Value} {S : jS} {β : Type} {z : β} (C : jC X (jMain D ad cy) RL cc ret nL fr lo) {a0 : Int32} {a1 : Int32} {E : Int32 → jS → Option β} (d : decode cc pc = .ok (.invokevirtual 55, 3)) (hE : jcl (f_X12_of a0 a1 S) E = some z) (hfr : 6 ≤ fr) (hlo : 135 ≤ lo) (hst : (st.map fun v => v.category).sum ≤ 8) (K : ∀ (v : Int32) (S1 : jS), E v S1 = some z → jJ X (jMain D ad cy) (pc + 3) lv (.int v :: st) S1) : jJ X (jMain D ad cy) pc lv (.int a1 :: .int a0 :: .ref (ad 41) :: st) S := by
  obtain ⟨v, h1, h2⟩ := jcl_some hE
  exact j_callV (k := 41) (ci := 12) (T := TX12) (N := 25) (n := 2) (As := [.int a0, .int a1]) C (c_X12_of C.2.2.2.2.2.2.1 a0 a1 S h1) tw_1012 tw_1013 tw_1014 tw_81 tw_1015 (by decide +kernel) rfl (by decide : 41 < 56) rfl rfl hfr hlo hst rfl d (K _ _ h2)
theorem k_L_56_X11_may {X : jX} {D : va_G} {ad : Nat → Nat} {cy : Nat → ClassId} {cc : ByteArray} {ret : Option FieldType} {nL fr lo pc : Nat} {lv : List (Nat × Value)} {st : List Value} {S : jS} {β : Type} {z : β} (C : jC X (jMain D ad cy) RL cc ret nL fr lo) {a0 : Int32} {a1 : Int32} {E : Int32 → jS → Option β} (d : decode cc pc = .ok (.invokevirtual 56, 3)) (hE : jcl (f_X11_may a0 a1 S) E = some z) (hfr : 5 ≤ fr) (hlo : 117 ≤ lo) (hst : (st.map fun v => v.category).sum ≤ 8) (K : ∀ (v : Int32) (S1 : jS), E v S1 = some z → jJ X (jMain D ad cy) (pc + 3) lv (.int v :: st) S1) : jJ X (jMain D ad cy) pc lv (.int a1 :: .int a0 :: .ref (ad 0) :: st) S := by
  obtain ⟨v, h1, h2⟩ := jcl_some hE
  exact j_callV (k := 0) (ci := 11) (T := TX11) (N := 16) (n := 2) (As := [.int a0, .int a1]) C (c_X11_may C.2.2.2.2.2.2.1 a0 a1 S h1) tw_587 tw_588 tw_589 tw_69 tw_590 (by decide +kernel) rfl (by decide : 0 < 56) rfl rfl hfr hlo hst rfl d (K _ _ h2)
theorem k_L_59_X12_may {X : jX} {D : va_G} {ad : Nat → Nat} {cy : Nat → ClassId} {cc : ByteArray} {ret : Option FieldType} {nL fr lo pc : Nat} {lv : List (Nat × Value)} {st : List Value} {S : jS} {β : Type} {z : β} (C : jC X (jMain D ad cy) RL cc ret nL fr lo) {a0 : Int32} {a1 : Int32} {E : Int32 → jS → Option β} (d : decode cc pc = .ok (.invokevirtual 59, 3)) (hE : jcl (f_X12_may a0 a1 S) E = some z) (hfr : 4 ≤ fr) (hlo : 92 ≤ lo) (hst : (st.map fun v => v.category).sum ≤ 8) (K : ∀ (v : Int32) (S1 : jS), E v S1 = some z → jJ X (jMain D ad cy) (pc + 3) lv (.int v :: st) S1) : jJ X (jMain D ad cy) pc lv (.int a1 :: .int a0 :: .ref (ad 41) :: st) S := by
  obtain ⟨v, h1, h2⟩ := jcl_some hE
  exact j_callV (k := 41) (ci := 12) (T := TX12) (N := 25) (n := 2) (As := [.int a0, .int a1]) C (c_X12_may C.2.2.2.2.2.2.1 a0 a1 S h1) tw_1051 tw_1052 tw_1053 tw_81 tw_1054 (by decide +kernel) rfl (by decide : 41 < 56) rfl rfl hfr hlo hst rfl d (K _ _ h2)
theorem k_L_60_X11_quarrels {X : jX} {D : va_G} {ad : Nat → Nat} {cy : Nat → ClassId} {cc : ByteArray} {ret : Option FieldType} {nL fr lo pc : Nat} {lv : List (Nat × Value)} {st : List Value} {S : jS} {β : Type} {z : β} (C : jC X (jMain D ad cy) RL cc ret nL fr lo) {a0 : Int32} {E : Int32 → jS → Option β} (d : decode cc pc = .ok (.invokevirtual 60, 3)) (hE : jcl (f_X11_quarrels a0 S) E = some z) (hfr : 6 ≤ fr) (hlo : 141 ≤ lo) (hst : (st.map fun v => v.category).sum ≤ 8) (K : ∀ (v : Int32) (S1 : jS), E v S1 = some z → jJ X (jMain D ad cy) (pc + 3) lv (.int v :: st) S1) : jJ X (jMain D ad cy) pc lv (.int a0 :: .ref (ad 0) :: st) S := by
  obtain ⟨v, h1, h2⟩ := jcl_some hE
  exact j_callV (k := 0) (ci := 11) (T := TX11) (N := 16) (n := 1) (As := [.int a0]) C (c_X11_quarrels C.2.2.2.2.2.2.1 a0 S h1) tw_593 tw_594 tw_595 tw_69 tw_596 (by decide +kernel) rfl (by decide : 0 < 56) rfl rfl hfr hlo hst rfl d (K _ _ h2)
theorem k_L_63_X12_quarrels {X : jX} {D : va_G} {ad : Nat → Nat} {cy : Nat → ClassId} {cc : ByteArray} {ret : Option FieldType} {nL fr lo pc : Nat} {lv : List (Nat × Value)} {st : List Value} {S : jS} {β : Type} {z : β} (C : jC X (jMain D ad cy) RL cc ret nL fr lo) {a0 : Int32} {E : Int32 → jS → Option β} (d : decode cc pc = .ok (.invokevirtual 63, 3)) (hE : jcl (f_X12_quarrels a0 S) E = some z) (hfr : 6 ≤ fr) (hlo : 136 ≤ lo) (hst : (st.map fun v => v.category).sum ≤ 8) (K : ∀ (v : Int32) (S1 : jS), E v S1 = some z → jJ X (jMain D ad cy) (pc + 3) lv (.int v :: st) S1) : jJ X (jMain D ad cy) pc lv (.int a0 :: .ref (ad 41) :: st) S := by
  obtain ⟨v, h1, h2⟩ := jcl_some hE
  exact j_callV (k := 41) (ci := 12) (T := TX12) (N := 25) (n := 1) (As := [.int a0]) C (c_X12_quarrels C.2.2.2.2.2.2.1 a0 S h1) tw_1058 tw_1059 tw_1060 tw_81 tw_1061 (by decide +kernel) rfl (by decide : 41 < 56) rfl rfl hfr hlo hst rfl d (K _ _ h2)
theorem k_L_64_X11_away {X : jX} {D : va_G} {ad : Nat → Nat} {cy : Nat → ClassId} {cc : ByteArray} {ret : Option FieldType} {nL fr lo pc : Nat} {lv : List (Nat × Value)} {st : List Value} {S : jS} {β : Type} {z : β} (C : jC X (jMain D ad cy) RL cc ret nL fr lo)  {E : Int32 → jS → Option β} (d : decode cc pc = .ok (.invokevirtual 64, 3)) (hE : jcl (f_X11_away  S) E = some z) (hfr : 6 ≤ fr) (hlo : 139 ≤ lo) (hst : (st.map fun v => v.category).sum ≤ 8) (K : ∀ (v : Int32) (S1 : jS), E v S1 = some z → jJ X (jMain D ad cy) (pc + 3) lv (.int v :: st) S1) : jJ X (jMain D ad cy) pc lv (.ref (ad 0) :: st) S := by
  obtain ⟨v, h1, h2⟩ := jcl_some hE
  exact j_callV (k := 0) (ci := 11) (T := TX11) (N := 16) (n := 0) (As := []) C (c_X11_away C.2.2.2.2.2.2.1  S h1) tw_606 tw_607 tw_608 tw_69 tw_609 (by decide +kernel) rfl (by decide : 0 < 56) rfl rfl hfr hlo hst rfl d (K _ _ h2)
theorem k_L_67_X12_away {X : jX} {D : va_G} {ad : Nat → Nat} {cy : Nat → ClassId} {cc : ByteArray} {ret : Option FieldType} {nL fr lo pc : Nat} {lv : List (Nat × Value)} {st : List Value} {S : jS} {β : Type} {z : β} (C : jC X (jMain D ad cy) RL cc ret nL fr lo)  {E : Int32 → jS → Option β} (d : decode cc pc = .ok (.invokevirtual 67, 3)) (hE : jcl (f_X12_away  S) E = some z) (hfr : 6 ≤ fr) (hlo : 136 ≤ lo) (hst : (st.map fun v => v.category).sum ≤ 8) (K : ∀ (v : Int32) (S1 : jS), E v S1 = some z → jJ X (jMain D ad cy) (pc + 3) lv (.int v :: st) S1) : jJ X (jMain D ad cy) pc lv (.ref (ad 41) :: st) S := by
  obtain ⟨v, h1, h2⟩ := jcl_some hE
  exact j_callV (k := 41) (ci := 12) (T := TX12) (N := 25) (n := 0) (As := []) C (c_X12_away C.2.2.2.2.2.2.1  S h1) tw_1066 tw_1067 tw_1068 tw_81 tw_1069 (by decide +kernel) rfl (by decide : 41 < 56) rfl rfl hfr hlo hst rfl d (K _ _ h2)
theorem k_L_68_X11_orders {X : jX} {D : va_G} {ad : Nat → Nat} {cy : Nat → ClassId} {cc : ByteArray} {ret : Option FieldType} {nL fr lo pc : Nat} {lv : List (Nat × Value)} {st : List Value} {S : jS} {β : Type} {z : β} (C : jC X (jMain D ad cy) RL cc ret nL fr lo) {a0 : Int32} {E : Int32 → jS → Option β} (d : decode cc pc = .ok (.invokevirtual 68, 3)) (hE : jcl (f_X11_orders a0 S) E = some z) (hfr : 6 ≤ fr) (hlo : 141 ≤ lo) (hst : (st.map fun v => v.category).sum ≤ 8) (K : ∀ (v : Int32) (S1 : jS), E v S1 = some z → jJ X (jMain D ad cy) (pc + 3) lv (.int v :: st) S1) : jJ X (jMain D ad cy) pc lv (.int a0 :: .ref (ad 0) :: st) S := by
  obtain ⟨v, h1, h2⟩ := jcl_some hE
  exact j_callV (k := 0) (ci := 11) (T := TX11) (N := 16) (n := 1) (As := [.int a0]) C (c_X11_orders C.2.2.2.2.2.2.1 a0 S h1) tw_614 tw_615 tw_616 tw_69 tw_617 (by decide +kernel) rfl (by decide : 0 < 56) rfl rfl hfr hlo hst rfl d (K _ _ h2)
theorem k_L_71_X12_orders {X : jX} {D : va_G} {ad : Nat → Nat} {cy : Nat → ClassId} {cc : ByteArray} {ret : Option FieldType} {nL fr lo pc : Nat} {lv : List (Nat × Value)} {st : List Value} {S : jS} {β : Type} {z : β} (C : jC X (jMain D ad cy) RL cc ret nL fr lo) {a0 : Int32} {E : Int32 → jS → Option β} (d : decode cc pc = .ok (.invokevirtual 71, 3)) (hE : jcl (f_X12_orders a0 S) E = some z) (hfr : 6 ≤ fr) (hlo : 135 ≤ lo) (hst : (st.map fun v => v.category).sum ≤ 8) (K : ∀ (v : Int32) (S1 : jS), E v S1 = some z → jJ X (jMain D ad cy) (pc + 3) lv (.int v :: st) S1) : jJ X (jMain D ad cy) pc lv (.int a0 :: .ref (ad 41) :: st) S := by
  obtain ⟨v, h1, h2⟩ := jcl_some hE
  exact j_callV (k := 41) (ci := 12) (T := TX12) (N := 25) (n := 1) (As := [.int a0]) C (c_X12_orders C.2.2.2.2.2.2.1 a0 S h1) tw_1070 tw_1071 tw_1072 tw_81 tw_1073 (by decide +kernel) rfl (by decide : 41 < 56) rfl rfl hfr hlo hst rfl d (K _ _ h2)
theorem k_L_72_X11_moved {X : jX} {D : va_G} {ad : Nat → Nat} {cy : Nat → ClassId} {cc : ByteArray} {ret : Option FieldType} {nL fr lo pc : Nat} {lv : List (Nat × Value)} {st : List Value} {S : jS} {β : Type} {z : β} (C : jC X (jMain D ad cy) RL cc ret nL fr lo)  {E : Int32 → jS → Option β} (d : decode cc pc = .ok (.invokevirtual 72, 3)) (hE : jcl (f_X11_moved  S) E = some z) (hfr : 6 ≤ fr) (hlo : 139 ≤ lo) (hst : (st.map fun v => v.category).sum ≤ 8) (K : ∀ (v : Int32) (S1 : jS), E v S1 = some z → jJ X (jMain D ad cy) (pc + 3) lv (.int v :: st) S1) : jJ X (jMain D ad cy) pc lv (.ref (ad 0) :: st) S := by
  obtain ⟨v, h1, h2⟩ := jcl_some hE
  exact j_callV (k := 0) (ci := 11) (T := TX11) (N := 16) (n := 0) (As := []) C (c_X11_moved C.2.2.2.2.2.2.1  S h1) tw_651 tw_652 tw_653 tw_69 tw_654 (by decide +kernel) rfl (by decide : 0 < 56) rfl rfl hfr hlo hst rfl d (K _ _ h2)
theorem k_L_75_X12_moved {X : jX} {D : va_G} {ad : Nat → Nat} {cy : Nat → ClassId} {cc : ByteArray} {ret : Option FieldType} {nL fr lo pc : Nat} {lv : List (Nat × Value)} {st : List Value} {S : jS} {β : Type} {z : β} (C : jC X (jMain D ad cy) RL cc ret nL fr lo)  {E : Int32 → jS → Option β} (d : decode cc pc = .ok (.invokevirtual 75, 3)) (hE : jcl (f_X12_moved  S) E = some z) (hfr : 6 ≤ fr) (hlo : 134 ≤ lo) (hst : (st.map fun v => v.category).sum ≤ 8) (K : ∀ (v : Int32) (S1 : jS), E v S1 = some z → jJ X (jMain D ad cy) (pc + 3) lv (.int v :: st) S1) : jJ X (jMain D ad cy) pc lv (.ref (ad 41) :: st) S := by
  obtain ⟨v, h1, h2⟩ := jcl_some hE
  exact j_callV (k := 41) (ci := 12) (T := TX12) (N := 25) (n := 0) (As := []) C (c_X12_moved C.2.2.2.2.2.2.1  S h1) tw_1100 tw_1101 tw_1102 tw_81 tw_1103 (by decide +kernel) rfl (by decide : 41 < 56) rfl rfl hfr hlo hst rfl d (K _ _ h2)
theorem k_L_76_X11_longest {X : jX} {D : va_G} {ad : Nat → Nat} {cy : Nat → ClassId} {cc : ByteArray} {ret : Option FieldType} {nL fr lo pc : Nat} {lv : List (Nat × Value)} {st : List Value} {S : jS} {β : Type} {z : β} (C : jC X (jMain D ad cy) RL cc ret nL fr lo)  {E : Int32 → jS → Option β} (d : decode cc pc = .ok (.invokevirtual 76, 3)) (hE : jcl (f_X11_longest  S) E = some z) (hfr : 7 ≤ fr) (hlo : 162 ≤ lo) (hst : (st.map fun v => v.category).sum ≤ 8) (K : ∀ (v : Int32) (S1 : jS), E v S1 = some z → jJ X (jMain D ad cy) (pc + 3) lv (.int v :: st) S1) : jJ X (jMain D ad cy) pc lv (.ref (ad 0) :: st) S := by
  obtain ⟨v, h1, h2⟩ := jcl_some hE
  exact j_callV (k := 0) (ci := 11) (T := TX11) (N := 16) (n := 0) (As := []) C (c_X11_longest C.2.2.2.2.2.2.1  S h1) tw_666 tw_667 tw_668 tw_69 tw_669 (by decide +kernel) rfl (by decide : 0 < 56) rfl rfl hfr hlo hst rfl d (K _ _ h2)
theorem k_L_79_X12_longest {X : jX} {D : va_G} {ad : Nat → Nat} {cy : Nat → ClassId} {cc : ByteArray} {ret : Option FieldType} {nL fr lo pc : Nat} {lv : List (Nat × Value)} {st : List Value} {S : jS} {β : Type} {z : β} (C : jC X (jMain D ad cy) RL cc ret nL fr lo)  {E : Int32 → jS → Option β} (d : decode cc pc = .ok (.invokevirtual 79, 3)) (hE : jcl (f_X12_longest  S) E = some z) (hfr : 4 ≤ fr) (hlo : 92 ≤ lo) (hst : (st.map fun v => v.category).sum ≤ 8) (K : ∀ (v : Int32) (S1 : jS), E v S1 = some z → jJ X (jMain D ad cy) (pc + 3) lv (.int v :: st) S1) : jJ X (jMain D ad cy) pc lv (.ref (ad 41) :: st) S := by
  obtain ⟨v, h1, h2⟩ := jcl_some hE
  exact j_callV (k := 41) (ci := 12) (T := TX12) (N := 25) (n := 0) (As := []) C (c_X12_longest C.2.2.2.2.2.2.1  S h1) tw_1104 tw_1105 tw_1106 tw_81 tw_1107 (by decide +kernel) rfl (by decide : 41 < 56) rfl rfl hfr hlo hst rfl d (K _ _ h2)
theorem k_L_80_X11_greatest {X : jX} {D : va_G} {ad : Nat → Nat} {cy : Nat → ClassId} {cc : ByteArray} {ret : Option FieldType} {nL fr lo pc : Nat} {lv : List (Nat × Value)} {st : List Value} {S : jS} {β : Type} {z : β} (C : jC X (jMain D ad cy) RL cc ret nL fr lo) {a0 : Int32} {E : Int32 → jS → Option β} (d : decode cc pc = .ok (.invokevirtual 80, 3)) (hE : jcl (f_X11_greatest a0 S) E = some z) (hfr : 7 ≤ fr) (hlo : 164 ≤ lo) (hst : (st.map fun v => v.category).sum ≤ 8) (K : ∀ (v : Int32) (S1 : jS), E v S1 = some z → jJ X (jMain D ad cy) (pc + 3) lv (.int v :: st) S1) : jJ X (jMain D ad cy) pc lv (.int a0 :: .ref (ad 0) :: st) S := by
  obtain ⟨v, h1, h2⟩ := jcl_some hE
  exact j_callV (k := 0) (ci := 11) (T := TX11) (N := 16) (n := 1) (As := [.int a0]) C (c_X11_greatest C.2.2.2.2.2.2.1 a0 S h1) tw_686 tw_687 tw_688 tw_69 tw_689 (by decide +kernel) rfl (by decide : 0 < 56) rfl rfl hfr hlo hst rfl d (K _ _ h2)
theorem k_L_83_X12_greatest {X : jX} {D : va_G} {ad : Nat → Nat} {cy : Nat → ClassId} {cc : ByteArray} {ret : Option FieldType} {nL fr lo pc : Nat} {lv : List (Nat × Value)} {st : List Value} {S : jS} {β : Type} {z : β} (C : jC X (jMain D ad cy) RL cc ret nL fr lo) {a0 : Int32} {E : Int32 → jS → Option β} (d : decode cc pc = .ok (.invokevirtual 83, 3)) (hE : jcl (f_X12_greatest a0 S) E = some z) (hfr : 4 ≤ fr) (hlo : 92 ≤ lo) (hst : (st.map fun v => v.category).sum ≤ 8) (K : ∀ (v : Int32) (S1 : jS), E v S1 = some z → jJ X (jMain D ad cy) (pc + 3) lv (.int v :: st) S1) : jJ X (jMain D ad cy) pc lv (.int a0 :: .ref (ad 41) :: st) S := by
  obtain ⟨v, h1, h2⟩ := jcl_some hE
  exact j_callV (k := 41) (ci := 12) (T := TX12) (N := 25) (n := 1) (As := [.int a0]) C (c_X12_greatest C.2.2.2.2.2.2.1 a0 S h1) tw_1116 tw_1117 tw_1118 tw_81 tw_1119 (by decide +kernel) rfl (by decide : 41 < 56) rfl rfl hfr hlo hst rfl d (K _ _ h2)
theorem k_L_84_X11_chain {X : jX} {D : va_G} {ad : Nat → Nat} {cy : Nat → ClassId} {cc : ByteArray} {ret : Option FieldType} {nL fr lo pc : Nat} {lv : List (Nat × Value)} {st : List Value} {S : jS} {β : Type} {z : β} (C : jC X (jMain D ad cy) RL cc ret nL fr lo) {a0 : Int32} {a1 : Int32} {E : Int32 → jS → Option β} (d : decode cc pc = .ok (.invokevirtual 84, 3)) (hE : jcl (f_X11_chain a0 a1 S) E = some z) (hfr : 4 ≤ fr) (hlo : 91 ≤ lo) (hst : (st.map fun v => v.category).sum ≤ 8) (K : ∀ (v : Int32) (S1 : jS), E v S1 = some z → jJ X (jMain D ad cy) (pc + 3) lv (.int v :: st) S1) : jJ X (jMain D ad cy) pc lv (.int a1 :: .int a0 :: .ref (ad 0) :: st) S := by
  obtain ⟨v, h1, h2⟩ := jcl_some hE
  exact j_callV (k := 0) (ci := 11) (T := TX11) (N := 16) (n := 2) (As := [.int a0, .int a1]) C (c_X11_chain C.2.2.2.2.2.2.1 a0 a1 S h1) tw_702 tw_703 tw_704 tw_69 tw_705 (by decide +kernel) rfl (by decide : 0 < 56) rfl rfl hfr hlo hst rfl d (K _ _ h2)
theorem k_L_87_X12_chain {X : jX} {D : va_G} {ad : Nat → Nat} {cy : Nat → ClassId} {cc : ByteArray} {ret : Option FieldType} {nL fr lo pc : Nat} {lv : List (Nat × Value)} {st : List Value} {S : jS} {β : Type} {z : β} (C : jC X (jMain D ad cy) RL cc ret nL fr lo) {a0 : Int32} {a1 : Int32} {E : Int32 → jS → Option β} (d : decode cc pc = .ok (.invokevirtual 87, 3)) (hE : jcl (f_X12_chain a0 a1 S) E = some z) (hfr : 3 ≤ fr) (hlo : 71 ≤ lo) (hst : (st.map fun v => v.category).sum ≤ 8) (K : ∀ (v : Int32) (S1 : jS), E v S1 = some z → jJ X (jMain D ad cy) (pc + 3) lv (.int v :: st) S1) : jJ X (jMain D ad cy) pc lv (.int a1 :: .int a0 :: .ref (ad 41) :: st) S := by
  obtain ⟨v, h1, h2⟩ := jcl_some hE
  exact j_callV (k := 41) (ci := 12) (T := TX12) (N := 25) (n := 2) (As := [.int a0, .int a1]) C (c_X12_chain C.2.2.2.2.2.2.1 a0 a1 S h1) tw_1124 tw_1125 tw_1126 tw_81 tw_1127 (by decide +kernel) rfl (by decide : 41 < 56) rfl rfl hfr hlo hst rfl d (K _ _ h2)
theorem k_L_88_X11_meet {X : jX} {D : va_G} {ad : Nat → Nat} {cy : Nat → ClassId} {cc : ByteArray} {ret : Option FieldType} {nL fr lo pc : Nat} {lv : List (Nat × Value)} {st : List Value} {S : jS} {β : Type} {z : β} (C : jC X (jMain D ad cy) RL cc ret nL fr lo)  {E : Int32 → jS → Option β} (d : decode cc pc = .ok (.invokevirtual 88, 3)) (hE : jcl (f_X11_meet  S) E = some z) (hfr : 3 ≤ fr) (hlo : 77 ≤ lo) (hst : (st.map fun v => v.category).sum ≤ 8) (K : ∀ (v : Int32) (S1 : jS), E v S1 = some z → jJ X (jMain D ad cy) (pc + 3) lv (.int v :: st) S1) : jJ X (jMain D ad cy) pc lv (.ref (ad 0) :: st) S := by
  obtain ⟨v, h1, h2⟩ := jcl_some hE
  exact j_callV (k := 0) (ci := 11) (T := TX11) (N := 16) (n := 0) (As := []) C (c_X11_meet C.2.2.2.2.2.2.1  S h1) tw_714 tw_715 tw_716 tw_69 tw_717 (by decide +kernel) rfl (by decide : 0 < 56) rfl rfl hfr hlo hst rfl d (K _ _ h2)
theorem k_L_91_X12_meet {X : jX} {D : va_G} {ad : Nat → Nat} {cy : Nat → ClassId} {cc : ByteArray} {ret : Option FieldType} {nL fr lo pc : Nat} {lv : List (Nat × Value)} {st : List Value} {S : jS} {β : Type} {z : β} (C : jC X (jMain D ad cy) RL cc ret nL fr lo)  {E : Int32 → jS → Option β} (d : decode cc pc = .ok (.invokevirtual 91, 3)) (hE : jcl (f_X12_meet  S) E = some z) (hfr : 2 ≤ fr) (hlo : 47 ≤ lo) (hst : (st.map fun v => v.category).sum ≤ 8) (K : ∀ (v : Int32) (S1 : jS), E v S1 = some z → jJ X (jMain D ad cy) (pc + 3) lv (.int v :: st) S1) : jJ X (jMain D ad cy) pc lv (.ref (ad 41) :: st) S := by
  obtain ⟨v, h1, h2⟩ := jcl_some hE
  exact j_callV (k := 41) (ci := 12) (T := TX12) (N := 25) (n := 0) (As := []) C (c_X12_meet C.2.2.2.2.2.2.1  S h1) tw_1132 tw_1133 tw_1134 tw_81 tw_1135 (by decide +kernel) rfl (by decide : 41 < 56) rfl rfl hfr hlo hst rfl d (K _ _ h2)
theorem k_L_92_X11_next {X : jX} {D : va_G} {ad : Nat → Nat} {cy : Nat → ClassId} {cc : ByteArray} {ret : Option FieldType} {nL fr lo pc : Nat} {lv : List (Nat × Value)} {st : List Value} {S : jS} {β : Type} {z : β} (C : jC X (jMain D ad cy) RL cc ret nL fr lo) {a0 : Int32} {E : Int32 → jS → Option β} (d : decode cc pc = .ok (.invokevirtual 92, 3)) (hE : jcl (f_X11_next a0 S) E = some z) (hfr : 2 ≤ fr) (hlo : 48 ≤ lo) (hst : (st.map fun v => v.category).sum ≤ 8) (K : ∀ (v : Int32) (S1 : jS), E v S1 = some z → jJ X (jMain D ad cy) (pc + 3) lv (.int v :: st) S1) : jJ X (jMain D ad cy) pc lv (.int a0 :: .ref (ad 0) :: st) S := by
  obtain ⟨v, h1, h2⟩ := jcl_some hE
  exact j_callV (k := 0) (ci := 11) (T := TX11) (N := 16) (n := 1) (As := [.int a0]) C (c_X11_next C.2.2.2.2.2.2.1 a0 S h1) tw_735 tw_736 tw_737 tw_69 tw_738 (by decide +kernel) rfl (by decide : 0 < 56) rfl rfl hfr hlo hst rfl d (K _ _ h2)
theorem k_L_95_X12_next {X : jX} {D : va_G} {ad : Nat → Nat} {cy : Nat → ClassId} {cc : ByteArray} {ret : Option FieldType} {nL fr lo pc : Nat} {lv : List (Nat × Value)} {st : List Value} {S : jS} {β : Type} {z : β} (C : jC X (jMain D ad cy) RL cc ret nL fr lo) {a0 : Int32} {E : Int32 → jS → Option β} (d : decode cc pc = .ok (.invokevirtual 95, 3)) (hE : jcl (f_X12_next a0 S) E = some z) (hfr : 2 ≤ fr) (hlo : 49 ≤ lo) (hst : (st.map fun v => v.category).sum ≤ 8) (K : ∀ (v : Int32) (S1 : jS), E v S1 = some z → jJ X (jMain D ad cy) (pc + 3) lv (.int v :: st) S1) : jJ X (jMain D ad cy) pc lv (.int a0 :: .ref (ad 41) :: st) S := by
  obtain ⟨v, h1, h2⟩ := jcl_some hE
  exact j_callV (k := 41) (ci := 12) (T := TX12) (N := 25) (n := 1) (As := [.int a0]) C (c_X12_next C.2.2.2.2.2.2.1 a0 S h1) tw_1141 tw_1142 tw_1143 tw_81 tw_1144 (by decide +kernel) rfl (by decide : 41 < 56) rfl rfl hfr hlo hst rfl d (K _ _ h2)
theorem k_L_96_X11_reading {X : jX} {D : va_G} {ad : Nat → Nat} {cy : Nat → ClassId} {cc : ByteArray} {ret : Option FieldType} {nL fr lo pc : Nat} {lv : List (Nat × Value)} {st : List Value} {S : jS} {β : Type} {z : β} (C : jC X (jMain D ad cy) RL cc ret nL fr lo) {a0 : Int32} {a1 : Int32} {E : Int32 → jS → Option β} (d : decode cc pc = .ok (.invokevirtual 96, 3)) (hE : jcl (f_X11_reading a0 a1 S) E = some z) (hfr : 3 ≤ fr) (hlo : 69 ≤ lo) (hst : (st.map fun v => v.category).sum ≤ 8) (K : ∀ (v : Int32) (S1 : jS), E v S1 = some z → jJ X (jMain D ad cy) (pc + 3) lv (.int v :: st) S1) : jJ X (jMain D ad cy) pc lv (.int a1 :: .int a0 :: .ref (ad 0) :: st) S := by
  obtain ⟨v, h1, h2⟩ := jcl_some hE
  exact j_callV (k := 0) (ci := 11) (T := TX11) (N := 16) (n := 2) (As := [.int a0, .int a1]) C (c_X11_reading C.2.2.2.2.2.2.1 a0 a1 S h1) tw_743 tw_744 tw_745 tw_69 tw_746 (by decide +kernel) rfl (by decide : 0 < 56) rfl rfl hfr hlo hst rfl d (K _ _ h2)
theorem k_L_99_X12_reading {X : jX} {D : va_G} {ad : Nat → Nat} {cy : Nat → ClassId} {cc : ByteArray} {ret : Option FieldType} {nL fr lo pc : Nat} {lv : List (Nat × Value)} {st : List Value} {S : jS} {β : Type} {z : β} (C : jC X (jMain D ad cy) RL cc ret nL fr lo) {a0 : Int32} {a1 : Int32} {E : Int32 → jS → Option β} (d : decode cc pc = .ok (.invokevirtual 99, 3)) (hE : jcl (f_X12_reading a0 a1 S) E = some z) (hfr : 3 ≤ fr) (hlo : 68 ≤ lo) (hst : (st.map fun v => v.category).sum ≤ 8) (K : ∀ (v : Int32) (S1 : jS), E v S1 = some z → jJ X (jMain D ad cy) (pc + 3) lv (.int v :: st) S1) : jJ X (jMain D ad cy) pc lv (.int a1 :: .int a0 :: .ref (ad 41) :: st) S := by
  obtain ⟨v, h1, h2⟩ := jcl_some hE
  exact j_callV (k := 41) (ci := 12) (T := TX12) (N := 25) (n := 2) (As := [.int a0, .int a1]) C (c_X12_reading C.2.2.2.2.2.2.1 a0 a1 S h1) tw_1146 tw_1147 tw_1148 tw_81 tw_1149 (by decide +kernel) rfl (by decide : 41 < 56) rfl rfl hfr hlo hst rfl d (K _ _ h2)
theorem k_L_100_X11_who {X : jX} {D : va_G} {ad : Nat → Nat} {cy : Nat → ClassId} {cc : ByteArray} {ret : Option FieldType} {nL fr lo pc : Nat} {lv : List (Nat × Value)} {st : List Value} {S : jS} {β : Type} {z : β} (C : jC X (jMain D ad cy) RL cc ret nL fr lo) {a0 : Int32} {E : Int32 → jS → Option β} (d : decode cc pc = .ok (.invokevirtual 100, 3)) (hE : jcl (f_X11_who a0 S) E = some z) (hfr : 7 ≤ fr) (hlo : 162 ≤ lo) (hst : (st.map fun v => v.category).sum ≤ 8) (K : ∀ (v : Int32) (S1 : jS), E v S1 = some z → jJ X (jMain D ad cy) (pc + 3) lv (.int v :: st) S1) : jJ X (jMain D ad cy) pc lv (.int a0 :: .ref (ad 0) :: st) S := by
  obtain ⟨v, h1, h2⟩ := jcl_some hE
  exact j_callV (k := 0) (ci := 11) (T := TX11) (N := 16) (n := 1) (As := [.int a0]) C (c_X11_who C.2.2.2.2.2.2.1 a0 S h1) tw_754 tw_755 tw_756 tw_69 tw_757 (by decide +kernel) rfl (by decide : 0 < 56) rfl rfl hfr hlo hst rfl d (K _ _ h2)
theorem k_L_103_X12_who {X : jX} {D : va_G} {ad : Nat → Nat} {cy : Nat → ClassId} {cc : ByteArray} {ret : Option FieldType} {nL fr lo pc : Nat} {lv : List (Nat × Value)} {st : List Value} {S : jS} {β : Type} {z : β} (C : jC X (jMain D ad cy) RL cc ret nL fr lo) {a0 : Int32} {E : Int32 → jS → Option β} (d : decode cc pc = .ok (.invokevirtual 103, 3)) (hE : jcl (f_X12_who a0 S) E = some z) (hfr : 5 ≤ fr) (hlo : 114 ≤ lo) (hst : (st.map fun v => v.category).sum ≤ 8) (K : ∀ (v : Int32) (S1 : jS), E v S1 = some z → jJ X (jMain D ad cy) (pc + 3) lv (.int v :: st) S1) : jJ X (jMain D ad cy) pc lv (.int a0 :: .ref (ad 41) :: st) S := by
  obtain ⟨v, h1, h2⟩ := jcl_some hE
  exact j_callV (k := 41) (ci := 12) (T := TX12) (N := 25) (n := 1) (As := [.int a0]) C (c_X12_who C.2.2.2.2.2.2.1 a0 S h1) tw_1154 tw_1155 tw_1156 tw_81 tw_1157 (by decide +kernel) rfl (by decide : 41 < 56) rfl rfl hfr hlo hst rfl d (K _ _ h2)
theorem k_L_104_X11_tryNext {X : jX} {D : va_G} {ad : Nat → Nat} {cy : Nat → ClassId} {cc : ByteArray} {ret : Option FieldType} {nL fr lo pc : Nat} {lv : List (Nat × Value)} {st : List Value} {S : jS} {β : Type} {z : β} (C : jC X (jMain D ad cy) RL cc ret nL fr lo)  {E : Int32 → jS → Option β} (d : decode cc pc = .ok (.invokevirtual 104, 3)) (hE : jcl (f_X11_tryNext  S) E = some z) (hfr : 7 ≤ fr) (hlo : 165 ≤ lo) (hst : (st.map fun v => v.category).sum ≤ 8) (K : ∀ (v : Int32) (S1 : jS), E v S1 = some z → jJ X (jMain D ad cy) (pc + 3) lv (.int v :: st) S1) : jJ X (jMain D ad cy) pc lv (.ref (ad 0) :: st) S := by
  obtain ⟨v, h1, h2⟩ := jcl_some hE
  exact j_callV (k := 0) (ci := 11) (T := TX11) (N := 16) (n := 0) (As := []) C (c_X11_tryNext C.2.2.2.2.2.2.1  S h1) tw_766 tw_767 tw_768 tw_69 tw_769 (by decide +kernel) rfl (by decide : 0 < 56) rfl rfl hfr hlo hst rfl d (K _ _ h2)
theorem k_L_107_X12_tryNext {X : jX} {D : va_G} {ad : Nat → Nat} {cy : Nat → ClassId} {cc : ByteArray} {ret : Option FieldType} {nL fr lo pc : Nat} {lv : List (Nat × Value)} {st : List Value} {S : jS} {β : Type} {z : β} (C : jC X (jMain D ad cy) RL cc ret nL fr lo)  {E : Int32 → jS → Option β} (d : decode cc pc = .ok (.invokevirtual 107, 3)) (hE : jcl (f_X12_tryNext  S) E = some z) (hfr : 5 ≤ fr) (hlo : 117 ≤ lo) (hst : (st.map fun v => v.category).sum ≤ 8) (K : ∀ (v : Int32) (S1 : jS), E v S1 = some z → jJ X (jMain D ad cy) (pc + 3) lv (.int v :: st) S1) : jJ X (jMain D ad cy) pc lv (.ref (ad 41) :: st) S := by
  obtain ⟨v, h1, h2⟩ := jcl_some hE
  exact j_callV (k := 41) (ci := 12) (T := TX12) (N := 25) (n := 0) (As := []) C (c_X12_tryNext C.2.2.2.2.2.2.1  S h1) tw_1166 tw_1167 tw_1168 tw_81 tw_1169 (by decide +kernel) rfl (by decide : 41 < 56) rfl rfl hfr hlo hst rfl d (K _ _ h2)
theorem k_L_108_X11_note {X : jX} {D : va_G} {ad : Nat → Nat} {cy : Nat → ClassId} {cc : ByteArray} {ret : Option FieldType} {nL fr lo pc : Nat} {lv : List (Nat × Value)} {st : List Value} {S : jS} {β : Type} {z : β} (C : jC X (jMain D ad cy) RL cc ret nL fr lo) {a0 : Int32} {a1 : Int32} {a2 : Int32} {E : Int32 → jS → Option β} (d : decode cc pc = .ok (.invokevirtual 108, 3)) (hE : jcl (f_X11_note a0 a1 a2 S) E = some z) (hfr : 3 ≤ fr) (hlo : 71 ≤ lo) (hst : (st.map fun v => v.category).sum ≤ 8) (K : ∀ (v : Int32) (S1 : jS), E v S1 = some z → jJ X (jMain D ad cy) (pc + 3) lv (.int v :: st) S1) : jJ X (jMain D ad cy) pc lv (.int a2 :: .int a1 :: .int a0 :: .ref (ad 0) :: st) S := by
  obtain ⟨v, h1, h2⟩ := jcl_some hE
  exact j_callV (k := 0) (ci := 11) (T := TX11) (N := 16) (n := 3) (As := [.int a0, .int a1, .int a2]) C (c_X11_note C.2.2.2.2.2.2.1 a0 a1 a2 S h1) tw_775 tw_776 tw_777 tw_69 tw_778 (by decide +kernel) rfl (by decide : 0 < 56) rfl rfl hfr hlo hst rfl d (K _ _ h2)
theorem k_L_112_X12_note {X : jX} {D : va_G} {ad : Nat → Nat} {cy : Nat → ClassId} {cc : ByteArray} {ret : Option FieldType} {nL fr lo pc : Nat} {lv : List (Nat × Value)} {st : List Value} {S : jS} {β : Type} {z : β} (C : jC X (jMain D ad cy) RL cc ret nL fr lo) {a0 : Int32} {a1 : Int32} {a2 : Int32} {E : Int32 → jS → Option β} (d : decode cc pc = .ok (.invokevirtual 112, 3)) (hE : jcl (f_X12_note a0 a1 a2 S) E = some z) (hfr : 3 ≤ fr) (hlo : 69 ≤ lo) (hst : (st.map fun v => v.category).sum ≤ 8) (K : ∀ (v : Int32) (S1 : jS), E v S1 = some z → jJ X (jMain D ad cy) (pc + 3) lv (.int v :: st) S1) : jJ X (jMain D ad cy) pc lv (.int a2 :: .int a1 :: .int a0 :: .ref (ad 41) :: st) S := by
  obtain ⟨v, h1, h2⟩ := jcl_some hE
  exact j_callV (k := 41) (ci := 12) (T := TX12) (N := 25) (n := 3) (As := [.int a0, .int a1, .int a2]) C (c_X12_note C.2.2.2.2.2.2.1 a0 a1 a2 S h1) tw_1174 tw_1175 tw_1176 tw_81 tw_1177 (by decide +kernel) rfl (by decide : 41 < 56) rfl rfl hfr hlo hst rfl d (K _ _ h2)
theorem k_L_113_X11_laws {X : jX} {D : va_G} {ad : Nat → Nat} {cy : Nat → ClassId} {cc : ByteArray} {ret : Option FieldType} {nL fr lo pc : Nat} {lv : List (Nat × Value)} {st : List Value} {S : jS} {β : Type} {z : β} (C : jC X (jMain D ad cy) RL cc ret nL fr lo) {a0 : Int32} {E : Int32 → jS → Option β} (d : decode cc pc = .ok (.invokevirtual 113, 3)) (hE : jcl (f_X11_laws a0 S) E = some z) (hfr : 6 ≤ fr) (hlo : 142 ≤ lo) (hst : (st.map fun v => v.category).sum ≤ 8) (K : ∀ (v : Int32) (S1 : jS), E v S1 = some z → jJ X (jMain D ad cy) (pc + 3) lv (.int v :: st) S1) : jJ X (jMain D ad cy) pc lv (.int a0 :: .ref (ad 0) :: st) S := by
  obtain ⟨v, h1, h2⟩ := jcl_some hE
  exact j_callV (k := 0) (ci := 11) (T := TX11) (N := 16) (n := 1) (As := [.int a0]) C (c_X11_laws C.2.2.2.2.2.2.1 a0 S h1) tw_783 tw_784 tw_785 tw_69 tw_786 (by decide +kernel) rfl (by decide : 0 < 56) rfl rfl hfr hlo hst rfl d (K _ _ h2)
theorem k_L_116_X12_laws {X : jX} {D : va_G} {ad : Nat → Nat} {cy : Nat → ClassId} {cc : ByteArray} {ret : Option FieldType} {nL fr lo pc : Nat} {lv : List (Nat × Value)} {st : List Value} {S : jS} {β : Type} {z : β} (C : jC X (jMain D ad cy) RL cc ret nL fr lo) {a0 : Int32} {E : Int32 → jS → Option β} (d : decode cc pc = .ok (.invokevirtual 116, 3)) (hE : jcl (f_X12_laws a0 S) E = some z) (hfr : 4 ≤ fr) (hlo : 97 ≤ lo) (hst : (st.map fun v => v.category).sum ≤ 8) (K : ∀ (v : Int32) (S1 : jS), E v S1 = some z → jJ X (jMain D ad cy) (pc + 3) lv (.int v :: st) S1) : jJ X (jMain D ad cy) pc lv (.int a0 :: .ref (ad 41) :: st) S := by
  obtain ⟨v, h1, h2⟩ := jcl_some hE
  exact j_callV (k := 41) (ci := 12) (T := TX12) (N := 25) (n := 1) (As := [.int a0]) C (c_X12_laws C.2.2.2.2.2.2.1 a0 S h1) tw_1178 tw_1179 tw_1180 tw_81 tw_1181 (by decide +kernel) rfl (by decide : 41 < 56) rfl rfl hfr hlo hst rfl d (K _ _ h2)
theorem k_L_117_X11_forget {X : jX} {D : va_G} {ad : Nat → Nat} {cy : Nat → ClassId} {cc : ByteArray} {ret : Option FieldType} {nL fr lo pc : Nat} {lv : List (Nat × Value)} {st : List Value} {S : jS} {β : Type} {z : β} (C : jC X (jMain D ad cy) RL cc ret nL fr lo) {a0 : Int32} {E : Int32 → jS → Option β} (d : decode cc pc = .ok (.invokevirtual 117, 3)) (hE : jcl (f_X11_forget a0 S) E = some z) (hfr : 2 ≤ fr) (hlo : 42 ≤ lo) (hst : (st.map fun v => v.category).sum ≤ 8) (K : ∀ (v : Int32) (S1 : jS), E v S1 = some z → jJ X (jMain D ad cy) (pc + 3) lv (.int v :: st) S1) : jJ X (jMain D ad cy) pc lv (.int a0 :: .ref (ad 0) :: st) S := by
  obtain ⟨v, h1, h2⟩ := jcl_some hE
  exact j_callV (k := 0) (ci := 11) (T := TX11) (N := 16) (n := 1) (As := [.int a0]) C (c_X11_forget C.2.2.2.2.2.2.1 a0 S h1) tw_791 tw_792 tw_793 tw_69 tw_794 (by decide +kernel) rfl (by decide : 0 < 56) rfl rfl hfr hlo hst rfl d (K _ _ h2)
theorem k_L_120_X12_forget {X : jX} {D : va_G} {ad : Nat → Nat} {cy : Nat → ClassId} {cc : ByteArray} {ret : Option FieldType} {nL fr lo pc : Nat} {lv : List (Nat × Value)} {st : List Value} {S : jS} {β : Type} {z : β} (C : jC X (jMain D ad cy) RL cc ret nL fr lo) {a0 : Int32} {E : Int32 → jS → Option β} (d : decode cc pc = .ok (.invokevirtual 120, 3)) (hE : jcl (f_X12_forget a0 S) E = some z) (hfr : 2 ≤ fr) (hlo : 48 ≤ lo) (hst : (st.map fun v => v.category).sum ≤ 8) (K : ∀ (v : Int32) (S1 : jS), E v S1 = some z → jJ X (jMain D ad cy) (pc + 3) lv (.int v :: st) S1) : jJ X (jMain D ad cy) pc lv (.int a0 :: .ref (ad 41) :: st) S := by
  obtain ⟨v, h1, h2⟩ := jcl_some hE
  exact j_callV (k := 41) (ci := 12) (T := TX12) (N := 25) (n := 1) (As := [.int a0]) C (c_X12_forget C.2.2.2.2.2.2.1 a0 S h1) tw_1186 tw_1187 tw_1188 tw_81 tw_1189 (by decide +kernel) rfl (by decide : 41 < 56) rfl rfl hfr hlo hst rfl d (K _ _ h2)
theorem k_L_121_X11_split {X : jX} {D : va_G} {ad : Nat → Nat} {cy : Nat → ClassId} {cc : ByteArray} {ret : Option FieldType} {nL fr lo pc : Nat} {lv : List (Nat × Value)} {st : List Value} {S : jS} {β : Type} {z : β} (C : jC X (jMain D ad cy) RL cc ret nL fr lo) {a0 : Int32} {E : Int32 → jS → Option β} (d : decode cc pc = .ok (.invokevirtual 121, 3)) (hE : jcl (f_X11_split a0 S) E = some z) (hfr : 6 ≤ fr) (hlo : 142 ≤ lo) (hst : (st.map fun v => v.category).sum ≤ 8) (K : ∀ (v : Int32) (S1 : jS), E v S1 = some z → jJ X (jMain D ad cy) (pc + 3) lv (.int v :: st) S1) : jJ X (jMain D ad cy) pc lv (.int a0 :: .ref (ad 0) :: st) S := by
  obtain ⟨v, h1, h2⟩ := jcl_some hE
  exact j_callV (k := 0) (ci := 11) (T := TX11) (N := 16) (n := 1) (As := [.int a0]) C (c_X11_split C.2.2.2.2.2.2.1 a0 S h1) tw_795 tw_796 tw_797 tw_69 tw_798 (by decide +kernel) rfl (by decide : 0 < 56) rfl rfl hfr hlo hst rfl d (K _ _ h2)
theorem k_L_124_X12_split {X : jX} {D : va_G} {ad : Nat → Nat} {cy : Nat → ClassId} {cc : ByteArray} {ret : Option FieldType} {nL fr lo pc : Nat} {lv : List (Nat × Value)} {st : List Value} {S : jS} {β : Type} {z : β} (C : jC X (jMain D ad cy) RL cc ret nL fr lo) {a0 : Int32} {E : Int32 → jS → Option β} (d : decode cc pc = .ok (.invokevirtual 124, 3)) (hE : jcl (f_X12_split a0 S) E = some z) (hfr : 6 ≤ fr) (hlo : 137 ≤ lo) (hst : (st.map fun v => v.category).sum ≤ 8) (K : ∀ (v : Int32) (S1 : jS), E v S1 = some z → jJ X (jMain D ad cy) (pc + 3) lv (.int v :: st) S1) : jJ X (jMain D ad cy) pc lv (.int a0 :: .ref (ad 41) :: st) S := by
  obtain ⟨v, h1, h2⟩ := jcl_some hE
  exact j_callV (k := 41) (ci := 12) (T := TX12) (N := 25) (n := 1) (As := [.int a0]) C (c_X12_split C.2.2.2.2.2.2.1 a0 S h1) tw_1190 tw_1191 tw_1192 tw_81 tw_1193 (by decide +kernel) rfl (by decide : 41 < 56) rfl rfl hfr hlo hst rfl d (K _ _ h2)
theorem k_L_125_X11_odds {X : jX} {D : va_G} {ad : Nat → Nat} {cy : Nat → ClassId} {cc : ByteArray} {ret : Option FieldType} {nL fr lo pc : Nat} {lv : List (Nat × Value)} {st : List Value} {S : jS} {β : Type} {z : β} (C : jC X (jMain D ad cy) RL cc ret nL fr lo) {a0 : Int32} {E : Int32 → jS → Option β} (d : decode cc pc = .ok (.invokevirtual 125, 3)) (hE : jcl (f_X11_odds a0 S) E = some z) (hfr : 6 ≤ fr) (hlo : 158 ≤ lo) (hst : (st.map fun v => v.category).sum ≤ 8) (K : ∀ (v : Int32) (S1 : jS), E v S1 = some z → jJ X (jMain D ad cy) (pc + 3) lv (.int v :: st) S1) : jJ X (jMain D ad cy) pc lv (.int a0 :: .ref (ad 0) :: st) S := by
  obtain ⟨v, h1, h2⟩ := jcl_some hE
  exact j_callV (k := 0) (ci := 11) (T := TX11) (N := 16) (n := 1) (As := [.int a0]) C (c_X11_odds C.2.2.2.2.2.2.1 a0 S h1) tw_803 tw_804 tw_805 tw_69 tw_806 (by decide +kernel) rfl (by decide : 0 < 56) rfl rfl hfr hlo hst rfl d (K _ _ h2)
theorem k_L_128_X12_odds {X : jX} {D : va_G} {ad : Nat → Nat} {cy : Nat → ClassId} {cc : ByteArray} {ret : Option FieldType} {nL fr lo pc : Nat} {lv : List (Nat × Value)} {st : List Value} {S : jS} {β : Type} {z : β} (C : jC X (jMain D ad cy) RL cc ret nL fr lo) {a0 : Int32} {E : Int32 → jS → Option β} (d : decode cc pc = .ok (.invokevirtual 128, 3)) (hE : jcl (f_X12_odds a0 S) E = some z) (hfr : 6 ≤ fr) (hlo : 144 ≤ lo) (hst : (st.map fun v => v.category).sum ≤ 8) (K : ∀ (v : Int32) (S1 : jS), E v S1 = some z → jJ X (jMain D ad cy) (pc + 3) lv (.int v :: st) S1) : jJ X (jMain D ad cy) pc lv (.int a0 :: .ref (ad 41) :: st) S := by
  obtain ⟨v, h1, h2⟩ := jcl_some hE
  exact j_callV (k := 41) (ci := 12) (T := TX12) (N := 25) (n := 1) (As := [.int a0]) C (c_X12_odds C.2.2.2.2.2.2.1 a0 S h1) tw_1194 tw_1195 tw_1196 tw_81 tw_1197 (by decide +kernel) rfl (by decide : 41 < 56) rfl rfl hfr hlo hst rfl d (K _ _ h2)
theorem k_L_129_X11_streets {X : jX} {D : va_G} {ad : Nat → Nat} {cy : Nat → ClassId} {cc : ByteArray} {ret : Option FieldType} {nL fr lo pc : Nat} {lv : List (Nat × Value)} {st : List Value} {S : jS} {β : Type} {z : β} (C : jC X (jMain D ad cy) RL cc ret nL fr lo) {a0 : Int32} {a1 : Int32} {E : Int32 → jS → Option β} (d : decode cc pc = .ok (.invokevirtual 129, 3)) (hE : jcl (f_X11_streets a0 a1 S) E = some z) (hfr : 6 ≤ fr) (hlo : 145 ≤ lo) (hst : (st.map fun v => v.category).sum ≤ 8) (K : ∀ (v : Int32) (S1 : jS), E v S1 = some z → jJ X (jMain D ad cy) (pc + 3) lv (.int v :: st) S1) : jJ X (jMain D ad cy) pc lv (.int a1 :: .int a0 :: .ref (ad 0) :: st) S := by
  obtain ⟨v, h1, h2⟩ := jcl_some hE
  exact j_callV (k := 0) (ci := 11) (T := TX11) (N := 16) (n := 2) (As := [.int a0, .int a1]) C (c_X11_streets C.2.2.2.2.2.2.1 a0 a1 S h1) tw_812 tw_813 tw_814 tw_69 tw_815 (by decide +kernel) rfl (by decide : 0 < 56) rfl rfl hfr hlo hst rfl d (K _ _ h2)
theorem k_L_132_X12_streets {X : jX} {D : va_G} {ad : Nat → Nat} {cy : Nat → ClassId} {cc : ByteArray} {ret : Option FieldType} {nL fr lo pc : Nat} {lv : List (Nat × Value)} {st : List Value} {S : jS} {β : Type} {z : β} (C : jC X (jMain D ad cy) RL cc ret nL fr lo) {a0 : Int32} {a1 : Int32} {E : Int32 → jS → Option β} (d : decode cc pc = .ok (.invokevirtual 132, 3)) (hE : jcl (f_X12_streets a0 a1 S) E = some z) (hfr : 6 ≤ fr) (hlo : 140 ≤ lo) (hst : (st.map fun v => v.category).sum ≤ 8) (K : ∀ (v : Int32) (S1 : jS), E v S1 = some z → jJ X (jMain D ad cy) (pc + 3) lv (.int v :: st) S1) : jJ X (jMain D ad cy) pc lv (.int a1 :: .int a0 :: .ref (ad 41) :: st) S := by
  obtain ⟨v, h1, h2⟩ := jcl_some hE
  exact j_callV (k := 41) (ci := 12) (T := TX12) (N := 25) (n := 2) (As := [.int a0, .int a1]) C (c_X12_streets C.2.2.2.2.2.2.1 a0 a1 S h1) tw_1203 tw_1204 tw_1205 tw_81 tw_1206 (by decide +kernel) rfl (by decide : 41 < 56) rfl rfl hfr hlo hst rfl d (K _ _ h2)
theorem k_L_133_X11_part {X : jX} {D : va_G} {ad : Nat → Nat} {cy : Nat → ClassId} {cc : ByteArray} {ret : Option FieldType} {nL fr lo pc : Nat} {lv : List (Nat × Value)} {st : List Value} {S : jS} {β : Type} {z : β} (C : jC X (jMain D ad cy) RL cc ret nL fr lo) {a0 : Int32} {E : Int64 → jS → Option β} (d : decode cc pc = .ok (.invokevirtual 133, 3)) (hE : jcl (f_X11_part a0 S) E = some z) (hfr : 2 ≤ fr) (hlo : 41 ≤ lo) (hst : (st.map fun v => v.category).sum ≤ 8) (K : ∀ (v : Int64) (S1 : jS), E v S1 = some z → jJ X (jMain D ad cy) (pc + 3) lv (.long v :: st) S1) : jJ X (jMain D ad cy) pc lv (.int a0 :: .ref (ad 0) :: st) S := by
  obtain ⟨v, h1, h2⟩ := jcl_some hE
  exact j_callV (k := 0) (ci := 11) (T := TX11) (N := 16) (n := 1) (As := [.int a0]) C (c_X11_part C.2.2.2.2.2.2.1 a0 S h1) tw_826 tw_827 tw_828 tw_69 tw_829 (by decide +kernel) rfl (by decide : 0 < 56) rfl rfl hfr hlo hst rfl d (K _ _ h2)
theorem k_L_137_X12_part {X : jX} {D : va_G} {ad : Nat → Nat} {cy : Nat → ClassId} {cc : ByteArray} {ret : Option FieldType} {nL fr lo pc : Nat} {lv : List (Nat × Value)} {st : List Value} {S : jS} {β : Type} {z : β} (C : jC X (jMain D ad cy) RL cc ret nL fr lo) {a0 : Int32} {E : Int64 → jS → Option β} (d : decode cc pc = .ok (.invokevirtual 137, 3)) (hE : jcl (f_X12_part a0 S) E = some z) (hfr : 2 ≤ fr) (hlo : 42 ≤ lo) (hst : (st.map fun v => v.category).sum ≤ 8) (K : ∀ (v : Int64) (S1 : jS), E v S1 = some z → jJ X (jMain D ad cy) (pc + 3) lv (.long v :: st) S1) : jJ X (jMain D ad cy) pc lv (.int a0 :: .ref (ad 41) :: st) S := by
  obtain ⟨v, h1, h2⟩ := jcl_some hE
  exact j_callV (k := 41) (ci := 12) (T := TX12) (N := 25) (n := 1) (As := [.int a0]) C (c_X12_part C.2.2.2.2.2.2.1 a0 S h1) tw_1261 tw_1262 tw_1263 tw_81 tw_1264 (by decide +kernel) rfl (by decide : 41 < 56) rfl rfl hfr hlo hst rfl d (K _ _ h2)
theorem k_L_138_X11_image {X : jX} {D : va_G} {ad : Nat → Nat} {cy : Nat → ClassId} {cc : ByteArray} {ret : Option FieldType} {nL fr lo pc : Nat} {lv : List (Nat × Value)} {st : List Value} {S : jS} {β : Type} {z : β} (C : jC X (jMain D ad cy) RL cc ret nL fr lo) {a0 : Int32} {E : Int32 → jS → Option β} (d : decode cc pc = .ok (.invokevirtual 138, 3)) (hE : jcl (f_X11_image a0 S) E = some z) (hfr : 3 ≤ fr) (hlo : 91 ≤ lo) (hst : (st.map fun v => v.category).sum ≤ 8) (K : ∀ (v : Int32) (S1 : jS), E v S1 = some z → jJ X (jMain D ad cy) (pc + 3) lv (.int v :: st) S1) : jJ X (jMain D ad cy) pc lv (.int a0 :: .ref (ad 0) :: st) S := by
  obtain ⟨v, h1, h2⟩ := jcl_some hE
  exact j_callV (k := 0) (ci := 11) (T := TX11) (N := 16) (n := 1) (As := [.int a0]) C (c_X11_image C.2.2.2.2.2.2.1 a0 S h1) tw_830 tw_831 tw_832 tw_69 tw_833 (by decide +kernel) rfl (by decide : 0 < 56) rfl rfl hfr hlo hst rfl d (K _ _ h2)
theorem k_L_141_X12_image {X : jX} {D : va_G} {ad : Nat → Nat} {cy : Nat → ClassId} {cc : ByteArray} {ret : Option FieldType} {nL fr lo pc : Nat} {lv : List (Nat × Value)} {st : List Value} {S : jS} {β : Type} {z : β} (C : jC X (jMain D ad cy) RL cc ret nL fr lo) {a0 : Int32} {E : Int32 → jS → Option β} (d : decode cc pc = .ok (.invokevirtual 141, 3)) (hE : jcl (f_X12_image a0 S) E = some z) (hfr : 2 ≤ fr) (hlo : 47 ≤ lo) (hst : (st.map fun v => v.category).sum ≤ 8) (K : ∀ (v : Int32) (S1 : jS), E v S1 = some z → jJ X (jMain D ad cy) (pc + 3) lv (.int v :: st) S1) : jJ X (jMain D ad cy) pc lv (.int a0 :: .ref (ad 41) :: st) S := by
  obtain ⟨v, h1, h2⟩ := jcl_some hE
  exact j_callV (k := 41) (ci := 12) (T := TX12) (N := 25) (n := 1) (As := [.int a0]) C (c_X12_image C.2.2.2.2.2.2.1 a0 S h1) tw_1265 tw_1266 tw_1267 tw_81 tw_1268 (by decide +kernel) rfl (by decide : 41 < 56) rfl rfl hfr hlo hst rfl d (K _ _ h2)
theorem k_L_142_X11_from {X : jX} {D : va_G} {ad : Nat → Nat} {cy : Nat → ClassId} {cc : ByteArray} {ret : Option FieldType} {nL fr lo pc : Nat} {lv : List (Nat × Value)} {st : List Value} {S : jS} {β : Type} {z : β} (C : jC X (jMain D ad cy) RL cc ret nL fr lo) {a0 : Int32} {E : Int32 → jS → Option β} (d : decode cc pc = .ok (.invokevirtual 142, 3)) (hE : jcl (f_X11_from a0 S) E = some z) (hfr : 3 ≤ fr) (hlo : 91 ≤ lo) (hst : (st.map fun v => v.category).sum ≤ 8) (K : ∀ (v : Int32) (S1 : jS), E v S1 = some z → jJ X (jMain D ad cy) (pc + 3) lv (.int v :: st) S1) : jJ X (jMain D ad cy) pc lv (.int a0 :: .ref (ad 0) :: st) S := by
  obtain ⟨v, h1, h2⟩ := jcl_some hE
  exact j_callV (k := 0) (ci := 11) (T := TX11) (N := 16) (n := 1) (As := [.int a0]) C (c_X11_from C.2.2.2.2.2.2.1 a0 S h1) tw_842 tw_843 tw_844 tw_69 tw_845 (by decide +kernel) rfl (by decide : 0 < 56) rfl rfl hfr hlo hst rfl d (K _ _ h2)
theorem k_L_145_X12_from {X : jX} {D : va_G} {ad : Nat → Nat} {cy : Nat → ClassId} {cc : ByteArray} {ret : Option FieldType} {nL fr lo pc : Nat} {lv : List (Nat × Value)} {st : List Value} {S : jS} {β : Type} {z : β} (C : jC X (jMain D ad cy) RL cc ret nL fr lo) {a0 : Int32} {E : Int32 → jS → Option β} (d : decode cc pc = .ok (.invokevirtual 145, 3)) (hE : jcl (f_X12_from a0 S) E = some z) (hfr : 2 ≤ fr) (hlo : 47 ≤ lo) (hst : (st.map fun v => v.category).sum ≤ 8) (K : ∀ (v : Int32) (S1 : jS), E v S1 = some z → jJ X (jMain D ad cy) (pc + 3) lv (.int v :: st) S1) : jJ X (jMain D ad cy) pc lv (.int a0 :: .ref (ad 41) :: st) S := by
  obtain ⟨v, h1, h2⟩ := jcl_some hE
  exact j_callV (k := 41) (ci := 12) (T := TX12) (N := 25) (n := 1) (As := [.int a0]) C (c_X12_from C.2.2.2.2.2.2.1 a0 S h1) tw_1269 tw_1270 tw_1271 tw_81 tw_1272 (by decide +kernel) rfl (by decide : 41 < 56) rfl rfl hfr hlo hst rfl d (K _ _ h2)
theorem k_L_146_X11_status {X : jX} {D : va_G} {ad : Nat → Nat} {cy : Nat → ClassId} {cc : ByteArray} {ret : Option FieldType} {nL fr lo pc : Nat} {lv : List (Nat × Value)} {st : List Value} {S : jS} {β : Type} {z : β} (C : jC X (jMain D ad cy) RL cc ret nL fr lo) {a0 : Int32} {E : Int32 → jS → Option β} (d : decode cc pc = .ok (.invokevirtual 146, 3)) (hE : jcl (f_X11_status a0 S) E = some z) (hfr : 1 ≤ fr) (hlo : 21 ≤ lo) (hst : (st.map fun v => v.category).sum ≤ 8) (K : ∀ (v : Int32) (S1 : jS), E v S1 = some z → jJ X (jMain D ad cy) (pc + 3) lv (.int v :: st) S1) : jJ X (jMain D ad cy) pc lv (.int a0 :: .ref (ad 0) :: st) S := by
  obtain ⟨v, h1, h2⟩ := jcl_some hE
  exact j_callV (k := 0) (ci := 11) (T := TX11) (N := 16) (n := 1) (As := [.int a0]) C (c_X11_status C.2.2.2.2.2.2.1 a0 S h1) tw_846 tw_847 tw_848 tw_69 tw_849 (by decide +kernel) rfl (by decide : 0 < 56) rfl rfl hfr hlo hst rfl d (K _ _ h2)
theorem k_L_149_X12_status {X : jX} {D : va_G} {ad : Nat → Nat} {cy : Nat → ClassId} {cc : ByteArray} {ret : Option FieldType} {nL fr lo pc : Nat} {lv : List (Nat × Value)} {st : List Value} {S : jS} {β : Type} {z : β} (C : jC X (jMain D ad cy) RL cc ret nL fr lo) {a0 : Int32} {E : Int32 → jS → Option β} (d : decode cc pc = .ok (.invokevirtual 149, 3)) (hE : jcl (f_X12_status a0 S) E = some z) (hfr : 2 ≤ fr) (hlo : 46 ≤ lo) (hst : (st.map fun v => v.category).sum ≤ 8) (K : ∀ (v : Int32) (S1 : jS), E v S1 = some z → jJ X (jMain D ad cy) (pc + 3) lv (.int v :: st) S1) : jJ X (jMain D ad cy) pc lv (.int a0 :: .ref (ad 41) :: st) S := by
  obtain ⟨v, h1, h2⟩ := jcl_some hE
  exact j_callV (k := 41) (ci := 12) (T := TX12) (N := 25) (n := 1) (As := [.int a0]) C (c_X12_status C.2.2.2.2.2.2.1 a0 S h1) tw_1273 tw_1274 tw_1275 tw_81 tw_1276 (by decide +kernel) rfl (by decide : 41 < 56) rfl rfl hfr hlo hst rfl d (K _ _ h2)
theorem k_L_150_X11_count {X : jX} {D : va_G} {ad : Nat → Nat} {cy : Nat → ClassId} {cc : ByteArray} {ret : Option FieldType} {nL fr lo pc : Nat} {lv : List (Nat × Value)} {st : List Value} {S : jS} {β : Type} {z : β} (C : jC X (jMain D ad cy) RL cc ret nL fr lo) {a0 : Int32} {E : Int32 → jS → Option β} (d : decode cc pc = .ok (.invokevirtual 150, 3)) (hE : jcl (f_X11_count a0 S) E = some z) (hfr : 3 ≤ fr) (hlo : 64 ≤ lo) (hst : (st.map fun v => v.category).sum ≤ 8) (K : ∀ (v : Int32) (S1 : jS), E v S1 = some z → jJ X (jMain D ad cy) (pc + 3) lv (.int v :: st) S1) : jJ X (jMain D ad cy) pc lv (.int a0 :: .ref (ad 0) :: st) S := by
  obtain ⟨v, h1, h2⟩ := jcl_some hE
  exact j_callV (k := 0) (ci := 11) (T := TX11) (N := 16) (n := 1) (As := [.int a0]) C (c_X11_count C.2.2.2.2.2.2.1 a0 S h1) tw_850 tw_851 tw_852 tw_69 tw_853 (by decide +kernel) rfl (by decide : 0 < 56) rfl rfl hfr hlo hst rfl d (K _ _ h2)
theorem k_L_153_X12_count {X : jX} {D : va_G} {ad : Nat → Nat} {cy : Nat → ClassId} {cc : ByteArray} {ret : Option FieldType} {nL fr lo pc : Nat} {lv : List (Nat × Value)} {st : List Value} {S : jS} {β : Type} {z : β} (C : jC X (jMain D ad cy) RL cc ret nL fr lo) {a0 : Int32} {E : Int32 → jS → Option β} (d : decode cc pc = .ok (.invokevirtual 153, 3)) (hE : jcl (f_X12_count a0 S) E = some z) (hfr : 3 ≤ fr) (hlo : 64 ≤ lo) (hst : (st.map fun v => v.category).sum ≤ 8) (K : ∀ (v : Int32) (S1 : jS), E v S1 = some z → jJ X (jMain D ad cy) (pc + 3) lv (.int v :: st) S1) : jJ X (jMain D ad cy) pc lv (.int a0 :: .ref (ad 41) :: st) S := by
  obtain ⟨v, h1, h2⟩ := jcl_some hE
  exact j_callV (k := 41) (ci := 12) (T := TX12) (N := 25) (n := 1) (As := [.int a0]) C (c_X12_count C.2.2.2.2.2.2.1 a0 S h1) tw_1277 tw_1278 tw_1279 tw_81 tw_1280 (by decide +kernel) rfl (by decide : 41 < 56) rfl rfl hfr hlo hst rfl d (K _ _ h2)
theorem k_L_154_X11_digest {X : jX} {D : va_G} {ad : Nat → Nat} {cy : Nat → ClassId} {cc : ByteArray} {ret : Option FieldType} {nL fr lo pc : Nat} {lv : List (Nat × Value)} {st : List Value} {S : jS} {β : Type} {z : β} (C : jC X (jMain D ad cy) RL cc ret nL fr lo)  {E : Int64 → jS → Option β} (d : decode cc pc = .ok (.invokevirtual 154, 3)) (hE : jcl (f_X11_digest  S) E = some z) (hfr : 3 ≤ fr) (hlo : 66 ≤ lo) (hst : (st.map fun v => v.category).sum ≤ 8) (K : ∀ (v : Int64) (S1 : jS), E v S1 = some z → jJ X (jMain D ad cy) (pc + 3) lv (.long v :: st) S1) : jJ X (jMain D ad cy) pc lv (.ref (ad 0) :: st) S := by
  obtain ⟨v, h1, h2⟩ := jcl_some hE
  exact j_callV (k := 0) (ci := 11) (T := TX11) (N := 16) (n := 0) (As := []) C (c_X11_digest C.2.2.2.2.2.2.1  S h1) tw_858 tw_859 tw_860 tw_69 tw_861 (by decide +kernel) rfl (by decide : 0 < 56) rfl rfl hfr hlo hst rfl d (K _ _ h2)
theorem k_L_158_X12_digest {X : jX} {D : va_G} {ad : Nat → Nat} {cy : Nat → ClassId} {cc : ByteArray} {ret : Option FieldType} {nL fr lo pc : Nat} {lv : List (Nat × Value)} {st : List Value} {S : jS} {β : Type} {z : β} (C : jC X (jMain D ad cy) RL cc ret nL fr lo)  {E : Int64 → jS → Option β} (d : decode cc pc = .ok (.invokevirtual 158, 3)) (hE : jcl (f_X12_digest  S) E = some z) (hfr : 3 ≤ fr) (hlo : 67 ≤ lo) (hst : (st.map fun v => v.category).sum ≤ 8) (K : ∀ (v : Int64) (S1 : jS), E v S1 = some z → jJ X (jMain D ad cy) (pc + 3) lv (.long v :: st) S1) : jJ X (jMain D ad cy) pc lv (.ref (ad 41) :: st) S := by
  obtain ⟨v, h1, h2⟩ := jcl_some hE
  exact j_callV (k := 41) (ci := 12) (T := TX12) (N := 25) (n := 0) (As := []) C (c_X12_digest C.2.2.2.2.2.2.1  S h1) tw_1285 tw_1286 tw_1287 tw_81 tw_1288 (by decide +kernel) rfl (by decide : 41 < 56) rfl rfl hfr hlo hst rfl d (K _ _ h2)
set_option maxRecDepth 100000 in
theorem p_L_law_1015 {X : jX} {D : va_G} {ad : Nat → Nat} {cy : Nat → ClassId} (C : jC X (jMain D ad cy) RL cL_law ret 4 12 424) {z : Unit} (Q : jLaw X (jMain D ad cy)) {L : Nat} {sc : Nat → Int32} (hX : jScr X (jMain D ad cy) (ad 200) L sc) {g : Int32 → jS → Option (Unit)} (hg : ∀ (x3 : Int32) (S : jS), g x3 S = some z → jJ X (jMain D ad cy) 18 [(0, .ref (ad 200)), (1, .ref (ad 0)), (2, .ref (ad 41)), (3, .int x3)] [] S) {k219 : jS → Option (Unit)} (hk219 : ∀  (S : jS), k219  S = some z → jJ X (jMain D ad cy) 219 [] [] S) {k252 : jS → Option (Unit)} (hk252 : ∀  (S : jS), k252  S = some z → jJ X (jMain D ad cy) 252 [] [] S) {k285 : jS → Option (Unit)} (hk285 : ∀  (S : jS), k285  S = some z → jJ X (jMain D ad cy) 285 [] [] S) {k308 : jS → Option (Unit)} (hk308 : ∀  (S : jS), k308  S = some z → jJ X (jMain D ad cy) 308 [] [] S) {k341 : jS → Option (Unit)} (hk341 : ∀  (S : jS), k341  S = some z → jJ X (jMain D ad cy) 341 [] [] S) {k354 : jS → Option (Unit)} (hk354 : ∀  (S : jS), k354  S = some z → jJ X (jMain D ad cy) 354 [] [] S) {k377 : jS → Option (Unit)} (hk377 : ∀  (S : jS), k377  S = some z → jJ X (jMain D ad cy) 377 [] [] S) {k390 : jS → Option (Unit)} (hk390 : ∀  (S : jS), k390  S = some z → jJ X (jMain D ad cy) 390 [] [] S) {k403 : jS → Option (Unit)} (hk403 : ∀  (S : jS), k403  S = some z → jJ X (jMain D ad cy) 403 [] [] S) {k436 : jS → Option (Unit)} (hk436 : ∀  (S : jS), k436  S = some z → jJ X (jMain D ad cy) 436 [] [] S) {k469 : jS → Option (Unit)} (hk469 : ∀  (S : jS), k469  S = some z → jJ X (jMain D ad cy) 469 [] [] S) {k492 : jS → Option (Unit)} (hk492 : ∀  (S : jS), k492  S = some z → jJ X (jMain D ad cy) 492 [] [] S) {k505 : jS → Option (Unit)} (hk505 : ∀  (S : jS), k505  S = some z → jJ X (jMain D ad cy) 505 [] [] S) {k528 : jS → Option (Unit)} (hk528 : ∀  (S : jS), k528  S = some z → jJ X (jMain D ad cy) 528 [] [] S) {k541 : jS → Option (Unit)} (hk541 : ∀  (S : jS), k541  S = some z → jJ X (jMain D ad cy) 541 [] [] S) {k554 : jS → Option (Unit)} (hk554 : ∀  (S : jS), k554  S = some z → jJ X (jMain D ad cy) 554 [] [] S) {k577 : jS → Option (Unit)} (hk577 : ∀  (S : jS), k577  S = some z → jJ X (jMain D ad cy) 577 [] [] S) {k610 : jS → Option (Unit)} (hk610 : ∀  (S : jS), k610  S = some z → jJ X (jMain D ad cy) 610 [] [] S) {k623 : jS → Option (Unit)} (hk623 : ∀  (S : jS), k623  S = some z → jJ X (jMain D ad cy) 623 [] [] S) {k646 : jS → Option (Unit)} (hk646 : ∀  (S : jS), k646  S = some z → jJ X (jMain D ad cy) 646 [] [] S) {k679 : jS → Option (Unit)} (hk679 : ∀  (S : jS), k679  S = some z → jJ X (jMain D ad cy) 679 [] [] S) {k702 : jS → Option (Unit)} (hk702 : ∀  (S : jS), k702  S = some z → jJ X (jMain D ad cy) 702 [] [] S) {k715 : jS → Option (Unit)} (hk715 : ∀  (S : jS), k715  S = some z → jJ X (jMain D ad cy) 715 [] [] S) {k758 : jS → Option (Unit)} (hk758 : ∀  (S : jS), k758  S = some z → jJ X (jMain D ad cy) 758 [] [] S) {k781 : jS → Option (Unit)} (hk781 : ∀  (S : jS), k781  S = some z → jJ X (jMain D ad cy) 781 [] [] S) {k804 : jS → Option (Unit)} (hk804 : ∀  (S : jS), k804  S = some z → jJ X (jMain D ad cy) 804 [] [] S) {k827 : jS → Option (Unit)} (hk827 : ∀  (S : jS), k827  S = some z → jJ X (jMain D ad cy) 827 [] [] S) {k850 : jS → Option (Unit)} (hk850 : ∀  (S : jS), k850  S = some z → jJ X (jMain D ad cy) 850 [] [] S) {k883 : jS → Option (Unit)} (hk883 : ∀  (S : jS), k883  S = some z → jJ X (jMain D ad cy) 883 [] [] S) {k907 : jS → Option (Unit)} (hk907 : ∀  (S : jS), k907  S = some z → jJ X (jMain D ad cy) 907 [] [] S) {k930 : jS → Option (Unit)} (hk930 : ∀  (S : jS), k930  S = some z → jJ X (jMain D ad cy) 930 [] [] S) {k953 : jS → Option (Unit)} (hk953 : ∀  (S : jS), k953  S = some z → jJ X (jMain D ad cy) 953 [] [] S) {k976 : jS → Option (Unit)} (hk976 : ∀  (S : jS), k976  S = some z → jJ X (jMain D ad cy) 976 [] [] S) {k999 : jS → Option (Unit)} (hk999 : ∀  (S : jS), k999  S = some z → jJ X (jMain D ad cy) 999 [] [] S) {k1013 : jS → Option (Unit)} (hk1013 : ∀  (S : jS), k1013  S = some z → jJ X (jMain D ad cy) 1013 [] [] S) {k1021 : jS → Option (Unit)} (hk1021 : ∀  (S : jS), k1021  S = some z → jJ X (jMain D ad cy) 1021 [] [] S) (x3 : Int32) (S : jS) (hE : f_L_law_1015 L sc g k219 k252 k285 k308 k341 k354 k377 k390 k403 k436 k469 k492 k505 k528 k541 k554 k577 k610 k623 k646 k679 k702 k715 k758 k781 k804 k827 k850 k883 k907 k930 k953 k976 k999 k1013 k1021 x3 S = some z) : jJ X (jMain D ad cy) 1015 [(0, .ref (ad 200)), (1, .ref (ad 0)), (2, .ref (ad 41)), (3, .int x3)] [] S := by
  unfold f_L_law_1015 at hE
  refine j_iinc (v := (x3 + 4)) (lv' := [(3, .int (x3 + 4)), (0, .ref (ad 200)), (1, .ref (ad 0)), (2, .ref (ad 41))]) C dL_law_1015 3 rfl (congrArg (fun w => x3 + w) jc_ic_4) (by decide) rfl ?_
  refine j_goto (tgt := 18) C dL_law_1018 rfl ?_
  refine j_sub [1, 2, 3, 0] rfl ?_
  exact hg (x3 + 4) S hE
set_option maxRecDepth 100000 in
theorem p_L_law_18 {X : jX} {D : va_G} {ad : Nat → Nat} {cy : Nat → ClassId} (C : jC X (jMain D ad cy) RL cL_law ret 4 12 424) {z : Unit} (Q : jLaw X (jMain D ad cy)) {L : Nat} {sc : Nat → Int32} (hX : jScr X (jMain D ad cy) (ad 200) L sc) {g : Int32 → jS → Option (Unit)} (hg : ∀ (x3 : Int32) (S : jS), g x3 S = some z → jJ X (jMain D ad cy) 18 [(0, .ref (ad 200)), (1, .ref (ad 0)), (2, .ref (ad 41)), (3, .int x3)] [] S) {k219 : jS → Option (Unit)} (hk219 : ∀  (S : jS), k219  S = some z → jJ X (jMain D ad cy) 219 [] [] S) {k252 : jS → Option (Unit)} (hk252 : ∀  (S : jS), k252  S = some z → jJ X (jMain D ad cy) 252 [] [] S) {k285 : jS → Option (Unit)} (hk285 : ∀  (S : jS), k285  S = some z → jJ X (jMain D ad cy) 285 [] [] S) {k308 : jS → Option (Unit)} (hk308 : ∀  (S : jS), k308  S = some z → jJ X (jMain D ad cy) 308 [] [] S) {k341 : jS → Option (Unit)} (hk341 : ∀  (S : jS), k341  S = some z → jJ X (jMain D ad cy) 341 [] [] S) {k354 : jS → Option (Unit)} (hk354 : ∀  (S : jS), k354  S = some z → jJ X (jMain D ad cy) 354 [] [] S) {k377 : jS → Option (Unit)} (hk377 : ∀  (S : jS), k377  S = some z → jJ X (jMain D ad cy) 377 [] [] S) {k390 : jS → Option (Unit)} (hk390 : ∀  (S : jS), k390  S = some z → jJ X (jMain D ad cy) 390 [] [] S) {k403 : jS → Option (Unit)} (hk403 : ∀  (S : jS), k403  S = some z → jJ X (jMain D ad cy) 403 [] [] S) {k436 : jS → Option (Unit)} (hk436 : ∀  (S : jS), k436  S = some z → jJ X (jMain D ad cy) 436 [] [] S) {k469 : jS → Option (Unit)} (hk469 : ∀  (S : jS), k469  S = some z → jJ X (jMain D ad cy) 469 [] [] S) {k492 : jS → Option (Unit)} (hk492 : ∀  (S : jS), k492  S = some z → jJ X (jMain D ad cy) 492 [] [] S) {k505 : jS → Option (Unit)} (hk505 : ∀  (S : jS), k505  S = some z → jJ X (jMain D ad cy) 505 [] [] S) {k528 : jS → Option (Unit)} (hk528 : ∀  (S : jS), k528  S = some z → jJ X (jMain D ad cy) 528 [] [] S) {k541 : jS → Option (Unit)} (hk541 : ∀  (S : jS), k541  S = some z → jJ X (jMain D ad cy) 541 [] [] S) {k554 : jS → Option (Unit)} (hk554 : ∀  (S : jS), k554  S = some z → jJ X (jMain D ad cy) 554 [] [] S) {k577 : jS → Option (Unit)} (hk577 : ∀  (S : jS), k577  S = some z → jJ X (jMain D ad cy) 577 [] [] S) {k610 : jS → Option (Unit)} (hk610 : ∀  (S : jS), k610  S = some z → jJ X (jMain D ad cy) 610 [] [] S) {k623 : jS → Option (Unit)} (hk623 : ∀  (S : jS), k623  S = some z → jJ X (jMain D ad cy) 623 [] [] S) {k646 : jS → Option (Unit)} (hk646 : ∀  (S : jS), k646  S = some z → jJ X (jMain D ad cy) 646 [] [] S) {k679 : jS → Option (Unit)} (hk679 : ∀  (S : jS), k679  S = some z → jJ X (jMain D ad cy) 679 [] [] S) {k702 : jS → Option (Unit)} (hk702 : ∀  (S : jS), k702  S = some z → jJ X (jMain D ad cy) 702 [] [] S) {k715 : jS → Option (Unit)} (hk715 : ∀  (S : jS), k715  S = some z → jJ X (jMain D ad cy) 715 [] [] S) {k758 : jS → Option (Unit)} (hk758 : ∀  (S : jS), k758  S = some z → jJ X (jMain D ad cy) 758 [] [] S) {k781 : jS → Option (Unit)} (hk781 : ∀  (S : jS), k781  S = some z → jJ X (jMain D ad cy) 781 [] [] S) {k804 : jS → Option (Unit)} (hk804 : ∀  (S : jS), k804  S = some z → jJ X (jMain D ad cy) 804 [] [] S) {k827 : jS → Option (Unit)} (hk827 : ∀  (S : jS), k827  S = some z → jJ X (jMain D ad cy) 827 [] [] S) {k850 : jS → Option (Unit)} (hk850 : ∀  (S : jS), k850  S = some z → jJ X (jMain D ad cy) 850 [] [] S) {k883 : jS → Option (Unit)} (hk883 : ∀  (S : jS), k883  S = some z → jJ X (jMain D ad cy) 883 [] [] S) {k907 : jS → Option (Unit)} (hk907 : ∀  (S : jS), k907  S = some z → jJ X (jMain D ad cy) 907 [] [] S) {k930 : jS → Option (Unit)} (hk930 : ∀  (S : jS), k930  S = some z → jJ X (jMain D ad cy) 930 [] [] S) {k953 : jS → Option (Unit)} (hk953 : ∀  (S : jS), k953  S = some z → jJ X (jMain D ad cy) 953 [] [] S) {k976 : jS → Option (Unit)} (hk976 : ∀  (S : jS), k976  S = some z → jJ X (jMain D ad cy) 976 [] [] S) {k999 : jS → Option (Unit)} (hk999 : ∀  (S : jS), k999  S = some z → jJ X (jMain D ad cy) 999 [] [] S) {k1013 : jS → Option (Unit)} (hk1013 : ∀  (S : jS), k1013  S = some z → jJ X (jMain D ad cy) 1013 [] [] S) {k1021 : jS → Option (Unit)} (hk1021 : ∀  (S : jS), k1021  S = some z → jJ X (jMain D ad cy) 1021 [] [] S) (x3 : Int32) (S : jS) (hE : f_L_law_18 L sc g k219 k252 k285 k308 k341 k354 k377 k390 k403 k436 k469 k492 k505 k528 k541 k554 k577 k610 k623 k646 k679 k702 k715 k758 k781 k804 k827 k850 k883 k907 k930 k953 k976 k999 k1013 k1021 x3 S = some z) : jJ X (jMain D ad cy) 18 [(0, .ref (ad 200)), (1, .ref (ad 0)), (2, .ref (ad 41)), (3, .int x3)] [] S := by
  unfold f_L_law_18 at hE
  refine j_iload_n C dL_law_18 3 rfl ?_
  refine j_aload_n C dL_law_19 0 rfl ?_
  refine j_slen C hX dL_law_20 ?_
  refine j_iconst (v := 4) C dL_law_21 jc_ic_4 ?_
  refine j_isub C dL_law_22 ?_
  refine j_icmp_gt (tgt := 1021) C dL_law_23 rfl hE (fun hE => ?_) (fun hE => ?_)
  · refine j_sub [] rfl ?_
    exact hk1021  S hE
  · refine j_aload_n C dL_law_26 0 rfl ?_
    refine j_iload_n C dL_law_27 3 rfl ?_
    refine j_sld C hX dL_law_28 hE (fun v1 hE => ?_)
    refine j_bipush (v := 63) C dL_law_29 jc_bp_63 ?_
    refine j_iand C dL_law_31 ?_
    refine j_case hE (fun e hE => ?_) (fun e0 hE => ?_)
    · refine j_tin (tgt := 188) C dL_law_32 (by rw [e]; decide) (by rw [e]; decide) (by rw [e]; rfl) rfl ?_
      refine j_aload_n C dL_law_188 1 rfl ?_
      refine j_aload_n C dL_law_189 0 rfl ?_
      refine j_iload_n C dL_law_190 3 rfl ?_
      refine j_iconst (v := 1) C dL_law_191 jc_ic_1 ?_
      refine j_iadd C dL_law_192 ?_
      refine j_sld C hX dL_law_193 hE (fun v2 hE => ?_)
      refine j_aload_n C dL_law_194 0 rfl ?_
      refine j_iload_n C dL_law_195 3 rfl ?_
      refine j_iconst (v := 2) C dL_law_196 jc_ic_2 ?_
      refine j_iadd C dL_law_197 ?_
      refine j_sld C hX dL_law_198 hE (fun v3 hE => ?_)
      refine k_L_13_X11_street C dL_law_199 hE (Nat.le_of_ble_eq_true rfl) (Nat.le_of_ble_eq_true rfl) (Nat.le_of_ble_eq_true rfl) (fun v5 S4 hE => ?_)
      refine j_aload_n C dL_law_202 2 rfl ?_
      refine j_aload_n C dL_law_203 0 rfl ?_
      refine j_iload_n C dL_law_204 3 rfl ?_
      refine j_iconst (v := 1) C dL_law_205 jc_ic_1 ?_
      refine j_iadd C dL_law_206 ?_
      refine j_sld C hX dL_law_207 hE (fun v6 hE => ?_)
      refine j_aload_n C dL_law_208 0 rfl ?_
      refine j_iload_n C dL_law_209 3 rfl ?_
      refine j_iconst (v := 2) C dL_law_210 jc_ic_2 ?_
      refine j_iadd C dL_law_211 ?_
      refine j_sld C hX dL_law_212 hE (fun v7 hE => ?_)
      refine k_L_17_X12_street C dL_law_213 hE (Nat.le_of_ble_eq_true rfl) (Nat.le_of_ble_eq_true rfl) (Nat.le_of_ble_eq_true rfl) (fun v9 S8 hE => ?_)
      refine j_icmp_eq (tgt := 1015) C dL_law_216 rfl hE (fun hE => ?_) (fun hE => ?_)
      · exact p_L_law_1015 C Q hX hg hk219 hk252 hk285 hk308 hk341 hk354 hk377 hk390 hk403 hk436 hk469 hk492 hk505 hk528 hk541 hk554 hk577 hk610 hk623 hk646 hk679 hk702 hk715 hk758 hk781 hk804 hk827 hk850 hk883 hk907 hk930 hk953 hk976 hk999 hk1013 hk1021 x3 S8 hE
      · refine j_sub [] rfl ?_
        exact hk219  S8 hE
    · skip
      refine j_case hE (fun e hE => ?_) (fun e1 hE => ?_)
      · refine j_tin (tgt := 221) C dL_law_32 (by rw [e]; decide) (by rw [e]; decide) (by rw [e]; rfl) rfl ?_
        refine j_aload_n C dL_law_221 1 rfl ?_
        refine j_aload_n C dL_law_222 0 rfl ?_
        refine j_iload_n C dL_law_223 3 rfl ?_
        refine j_iconst (v := 1) C dL_law_224 jc_ic_1 ?_
        refine j_iadd C dL_law_225 ?_
        refine j_sld C hX dL_law_226 hE (fun v10 hE => ?_)
        refine j_aload_n C dL_law_227 0 rfl ?_
        refine j_iload_n C dL_law_228 3 rfl ?_
        refine j_iconst (v := 2) C dL_law_229 jc_ic_2 ?_
        refine j_iadd C dL_law_230 ?_
        refine j_sld C hX dL_law_231 hE (fun v11 hE => ?_)
        refine k_L_18_X11_rule C dL_law_232 hE (Nat.le_of_ble_eq_true rfl) (Nat.le_of_ble_eq_true rfl) (Nat.le_of_ble_eq_true rfl) (fun v13 S12 hE => ?_)
        refine j_aload_n C dL_law_235 2 rfl ?_
        refine j_aload_n C dL_law_236 0 rfl ?_
        refine j_iload_n C dL_law_237 3 rfl ?_
        refine j_iconst (v := 1) C dL_law_238 jc_ic_1 ?_
        refine j_iadd C dL_law_239 ?_
        refine j_sld C hX dL_law_240 hE (fun v14 hE => ?_)
        refine j_aload_n C dL_law_241 0 rfl ?_
        refine j_iload_n C dL_law_242 3 rfl ?_
        refine j_iconst (v := 2) C dL_law_243 jc_ic_2 ?_
        refine j_iadd C dL_law_244 ?_
        refine j_sld C hX dL_law_245 hE (fun v15 hE => ?_)
        refine k_L_21_X12_rule C dL_law_246 hE (Nat.le_of_ble_eq_true rfl) (Nat.le_of_ble_eq_true rfl) (Nat.le_of_ble_eq_true rfl) (fun v17 S16 hE => ?_)
        refine j_icmp_eq (tgt := 1015) C dL_law_249 rfl hE (fun hE => ?_) (fun hE => ?_)
        · exact p_L_law_1015 C Q hX hg hk219 hk252 hk285 hk308 hk341 hk354 hk377 hk390 hk403 hk436 hk469 hk492 hk505 hk528 hk541 hk554 hk577 hk610 hk623 hk646 hk679 hk702 hk715 hk758 hk781 hk804 hk827 hk850 hk883 hk907 hk930 hk953 hk976 hk999 hk1013 hk1021 x3 S16 hE
        · refine j_sub [] rfl ?_
          exact hk252  S16 hE
      · skip
        refine j_case hE (fun e hE => ?_) (fun e2 hE => ?_)
        · refine j_tin (tgt := 254) C dL_law_32 (by rw [e]; decide) (by rw [e]; decide) (by rw [e]; rfl) rfl ?_
          refine j_aload_n C dL_law_254 1 rfl ?_
          refine j_aload_n C dL_law_255 0 rfl ?_
          refine j_iload_n C dL_law_256 3 rfl ?_
          refine j_iconst (v := 1) C dL_law_257 jc_ic_1 ?_
          refine j_iadd C dL_law_258 ?_
          refine j_sld C hX dL_law_259 hE (fun v18 hE => ?_)
          refine j_aload_n C dL_law_260 0 rfl ?_
          refine j_iload_n C dL_law_261 3 rfl ?_
          refine j_iconst (v := 2) C dL_law_262 jc_ic_2 ?_
          refine j_iadd C dL_law_263 ?_
          refine j_sld C hX dL_law_264 hE (fun v19 hE => ?_)
          refine k_L_22_X11_house C dL_law_265 hE (Nat.le_of_ble_eq_true rfl) (Nat.le_of_ble_eq_true rfl) (Nat.le_of_ble_eq_true rfl) (fun v21 S20 hE => ?_)
          refine j_aload_n C dL_law_268 2 rfl ?_
          refine j_aload_n C dL_law_269 0 rfl ?_
          refine j_iload_n C dL_law_270 3 rfl ?_
          refine j_iconst (v := 1) C dL_law_271 jc_ic_1 ?_
          refine j_iadd C dL_law_272 ?_
          refine j_sld C hX dL_law_273 hE (fun v22 hE => ?_)
          refine j_aload_n C dL_law_274 0 rfl ?_
          refine j_iload_n C dL_law_275 3 rfl ?_
          refine j_iconst (v := 2) C dL_law_276 jc_ic_2 ?_
          refine j_iadd C dL_law_277 ?_
          refine j_sld C hX dL_law_278 hE (fun v23 hE => ?_)
          refine k_L_25_X12_house C dL_law_279 hE (Nat.le_of_ble_eq_true rfl) (Nat.le_of_ble_eq_true rfl) (Nat.le_of_ble_eq_true rfl) (fun v25 S24 hE => ?_)
          refine j_icmp_eq (tgt := 1015) C dL_law_282 rfl hE (fun hE => ?_) (fun hE => ?_)
          · exact p_L_law_1015 C Q hX hg hk219 hk252 hk285 hk308 hk341 hk354 hk377 hk390 hk403 hk436 hk469 hk492 hk505 hk528 hk541 hk554 hk577 hk610 hk623 hk646 hk679 hk702 hk715 hk758 hk781 hk804 hk827 hk850 hk883 hk907 hk930 hk953 hk976 hk999 hk1013 hk1021 x3 S24 hE
          · refine j_sub [] rfl ?_
            exact hk285  S24 hE
        · skip
          refine j_case hE (fun e hE => ?_) (fun e3 hE => ?_)
          · refine j_tin (tgt := 287) C dL_law_32 (by rw [e]; decide) (by rw [e]; decide) (by rw [e]; rfl) rfl ?_
            refine j_aload_n C dL_law_287 1 rfl ?_
            refine j_aload_n C dL_law_288 0 rfl ?_
            refine j_iload_n C dL_law_289 3 rfl ?_
            refine j_iconst (v := 1) C dL_law_290 jc_ic_1 ?_
            refine j_iadd C dL_law_291 ?_
            refine j_sld C hX dL_law_292 hE (fun v26 hE => ?_)
            refine k_L_26_X11_birthday C dL_law_293 hE (Nat.le_of_ble_eq_true rfl) (Nat.le_of_ble_eq_true rfl) (Nat.le_of_ble_eq_true rfl) (fun v28 S27 hE => ?_)
            refine j_aload_n C dL_law_296 2 rfl ?_
            refine j_aload_n C dL_law_297 0 rfl ?_
            refine j_iload_n C dL_law_298 3 rfl ?_
            refine j_iconst (v := 1) C dL_law_299 jc_ic_1 ?_
            refine j_iadd C dL_law_300 ?_
            refine j_sld C hX dL_law_301 hE (fun v29 hE => ?_)
            refine k_L_30_X12_birthday C dL_law_302 hE (Nat.le_of_ble_eq_true rfl) (Nat.le_of_ble_eq_true rfl) (Nat.le_of_ble_eq_true rfl) (fun v31 S30 hE => ?_)
            refine j_icmp_eq (tgt := 1015) C dL_law_305 rfl hE (fun hE => ?_) (fun hE => ?_)
            · exact p_L_law_1015 C Q hX hg hk219 hk252 hk285 hk308 hk341 hk354 hk377 hk390 hk403 hk436 hk469 hk492 hk505 hk528 hk541 hk554 hk577 hk610 hk623 hk646 hk679 hk702 hk715 hk758 hk781 hk804 hk827 hk850 hk883 hk907 hk930 hk953 hk976 hk999 hk1013 hk1021 x3 S30 hE
            · refine j_sub [] rfl ?_
              exact hk308  S30 hE
          · skip
            refine j_case hE (fun e hE => ?_) (fun e4 hE => ?_)
            · refine j_tin (tgt := 310) C dL_law_32 (by rw [e]; decide) (by rw [e]; decide) (by rw [e]; rfl) rfl ?_
              refine j_aload_n C dL_law_310 1 rfl ?_
              refine j_aload_n C dL_law_311 0 rfl ?_
              refine j_iload_n C dL_law_312 3 rfl ?_
              refine j_iconst (v := 1) C dL_law_313 jc_ic_1 ?_
              refine j_iadd C dL_law_314 ?_
              refine j_sld C hX dL_law_315 hE (fun v32 hE => ?_)
              refine j_aload_n C dL_law_316 0 rfl ?_
              refine j_iload_n C dL_law_317 3 rfl ?_
              refine j_iconst (v := 2) C dL_law_318 jc_ic_2 ?_
              refine j_iadd C dL_law_319 ?_
              refine j_sld C hX dL_law_320 hE (fun v33 hE => ?_)
              refine k_L_31_X11_swap C dL_law_321 hE (Nat.le_of_ble_eq_true rfl) (Nat.le_of_ble_eq_true rfl) (Nat.le_of_ble_eq_true rfl) (fun v35 S34 hE => ?_)
              refine j_aload_n C dL_law_324 2 rfl ?_
              refine j_aload_n C dL_law_325 0 rfl ?_
              refine j_iload_n C dL_law_326 3 rfl ?_
              refine j_iconst (v := 1) C dL_law_327 jc_ic_1 ?_
              refine j_iadd C dL_law_328 ?_
              refine j_sld C hX dL_law_329 hE (fun v36 hE => ?_)
              refine j_aload_n C dL_law_330 0 rfl ?_
              refine j_iload_n C dL_law_331 3 rfl ?_
              refine j_iconst (v := 2) C dL_law_332 jc_ic_2 ?_
              refine j_iadd C dL_law_333 ?_
              refine j_sld C hX dL_law_334 hE (fun v37 hE => ?_)
              refine k_L_34_X12_swap C dL_law_335 hE (Nat.le_of_ble_eq_true rfl) (Nat.le_of_ble_eq_true rfl) (Nat.le_of_ble_eq_true rfl) (fun v39 S38 hE => ?_)
              refine j_icmp_eq (tgt := 1015) C dL_law_338 rfl hE (fun hE => ?_) (fun hE => ?_)
              · exact p_L_law_1015 C Q hX hg hk219 hk252 hk285 hk308 hk341 hk354 hk377 hk390 hk403 hk436 hk469 hk492 hk505 hk528 hk541 hk554 hk577 hk610 hk623 hk646 hk679 hk702 hk715 hk758 hk781 hk804 hk827 hk850 hk883 hk907 hk930 hk953 hk976 hk999 hk1013 hk1021 x3 S38 hE
              · refine j_sub [] rfl ?_
                exact hk341  S38 hE
            · skip
              refine j_case hE (fun e hE => ?_) (fun e5 hE => ?_)
              · refine j_tin (tgt := 343) C dL_law_32 (by rw [e]; decide) (by rw [e]; decide) (by rw [e]; rfl) rfl ?_
                refine j_aload_n C dL_law_343 1 rfl ?_
                refine k_L_35_X11_undo C dL_law_344 hE (Nat.le_of_ble_eq_true rfl) (Nat.le_of_ble_eq_true rfl) (Nat.le_of_ble_eq_true rfl) (fun v41 S40 hE => ?_)
                refine j_aload_n C dL_law_347 2 rfl ?_
                refine k_L_39_X12_undo C dL_law_348 hE (Nat.le_of_ble_eq_true rfl) (Nat.le_of_ble_eq_true rfl) (Nat.le_of_ble_eq_true rfl) (fun v43 S42 hE => ?_)
                refine j_icmp_eq (tgt := 1015) C dL_law_351 rfl hE (fun hE => ?_) (fun hE => ?_)
                · exact p_L_law_1015 C Q hX hg hk219 hk252 hk285 hk308 hk341 hk354 hk377 hk390 hk403 hk436 hk469 hk492 hk505 hk528 hk541 hk554 hk577 hk610 hk623 hk646 hk679 hk702 hk715 hk758 hk781 hk804 hk827 hk850 hk883 hk907 hk930 hk953 hk976 hk999 hk1013 hk1021 x3 S42 hE
                · refine j_sub [] rfl ?_
                  exact hk354  S42 hE
              · skip
                refine j_case hE (fun e hE => ?_) (fun e6 hE => ?_)
                · refine j_tin (tgt := 356) C dL_law_32 (by rw [e]; decide) (by rw [e]; decide) (by rw [e]; rfl) rfl ?_
                  refine j_aload_n C dL_law_356 1 rfl ?_
                  refine j_aload_n C dL_law_357 0 rfl ?_
                  refine j_iload_n C dL_law_358 3 rfl ?_
                  refine j_iconst (v := 1) C dL_law_359 jc_ic_1 ?_
                  refine j_iadd C dL_law_360 ?_
                  refine j_sld C hX dL_law_361 hE (fun v44 hE => ?_)
                  refine k_L_40_X11_type C dL_law_362 hE (Nat.le_of_ble_eq_true rfl) (Nat.le_of_ble_eq_true rfl) (Nat.le_of_ble_eq_true rfl) (fun v46 S45 hE => ?_)
                  refine j_aload_n C dL_law_365 2 rfl ?_
                  refine j_aload_n C dL_law_366 0 rfl ?_
                  refine j_iload_n C dL_law_367 3 rfl ?_
                  refine j_iconst (v := 1) C dL_law_368 jc_ic_1 ?_
                  refine j_iadd C dL_law_369 ?_
                  refine j_sld C hX dL_law_370 hE (fun v47 hE => ?_)
                  refine k_L_43_X12_type C dL_law_371 hE (Nat.le_of_ble_eq_true rfl) (Nat.le_of_ble_eq_true rfl) (Nat.le_of_ble_eq_true rfl) (fun v49 S48 hE => ?_)
                  refine j_icmp_eq (tgt := 1015) C dL_law_374 rfl hE (fun hE => ?_) (fun hE => ?_)
                  · exact p_L_law_1015 C Q hX hg hk219 hk252 hk285 hk308 hk341 hk354 hk377 hk390 hk403 hk436 hk469 hk492 hk505 hk528 hk541 hk554 hk577 hk610 hk623 hk646 hk679 hk702 hk715 hk758 hk781 hk804 hk827 hk850 hk883 hk907 hk930 hk953 hk976 hk999 hk1013 hk1021 x3 S48 hE
                  · refine j_sub [] rfl ?_
                    exact hk377  S48 hE
                · skip
                  refine j_case hE (fun e hE => ?_) (fun e7 hE => ?_)
                  · refine j_tin (tgt := 379) C dL_law_32 (by rw [e]; decide) (by rw [e]; decide) (by rw [e]; rfl) rfl ?_
                    refine j_aload_n C dL_law_379 1 rfl ?_
                    refine k_L_44_X11_clear C dL_law_380 hE (Nat.le_of_ble_eq_true rfl) (Nat.le_of_ble_eq_true rfl) (Nat.le_of_ble_eq_true rfl) (fun v51 S50 hE => ?_)
                    refine j_aload_n C dL_law_383 2 rfl ?_
                    refine k_L_47_X12_clear C dL_law_384 hE (Nat.le_of_ble_eq_true rfl) (Nat.le_of_ble_eq_true rfl) (Nat.le_of_ble_eq_true rfl) (fun v53 S52 hE => ?_)
                    refine j_icmp_eq (tgt := 1015) C dL_law_387 rfl hE (fun hE => ?_) (fun hE => ?_)
                    · exact p_L_law_1015 C Q hX hg hk219 hk252 hk285 hk308 hk341 hk354 hk377 hk390 hk403 hk436 hk469 hk492 hk505 hk528 hk541 hk554 hk577 hk610 hk623 hk646 hk679 hk702 hk715 hk758 hk781 hk804 hk827 hk850 hk883 hk907 hk930 hk953 hk976 hk999 hk1013 hk1021 x3 S52 hE
                    · refine j_sub [] rfl ?_
                      exact hk390  S52 hE
                  · skip
                    refine j_case hE (fun e hE => ?_) (fun e8 hE => ?_)
                    · refine j_tin (tgt := 392) C dL_law_32 (by rw [e]; decide) (by rw [e]; decide) (by rw [e]; rfl) rfl ?_
                      refine j_aload_n C dL_law_392 1 rfl ?_
                      refine k_L_48_X11_read C dL_law_393 hE (Nat.le_of_ble_eq_true rfl) (Nat.le_of_ble_eq_true rfl) (Nat.le_of_ble_eq_true rfl) (fun v55 S54 hE => ?_)
                      refine j_aload_n C dL_law_396 2 rfl ?_
                      refine k_L_51_X12_read C dL_law_397 hE (Nat.le_of_ble_eq_true rfl) (Nat.le_of_ble_eq_true rfl) (Nat.le_of_ble_eq_true rfl) (fun v57 S56 hE => ?_)
                      refine j_icmp_eq (tgt := 1015) C dL_law_400 rfl hE (fun hE => ?_) (fun hE => ?_)
                      · exact p_L_law_1015 C Q hX hg hk219 hk252 hk285 hk308 hk341 hk354 hk377 hk390 hk403 hk436 hk469 hk492 hk505 hk528 hk541 hk554 hk577 hk610 hk623 hk646 hk679 hk702 hk715 hk758 hk781 hk804 hk827 hk850 hk883 hk907 hk930 hk953 hk976 hk999 hk1013 hk1021 x3 S56 hE
                      · refine j_sub [] rfl ?_
                        exact hk403  S56 hE
                    · skip
                      refine j_case hE (fun e hE => ?_) (fun e9 hE => ?_)
                      · refine j_tin (tgt := 405) C dL_law_32 (by rw [e]; decide) (by rw [e]; decide) (by rw [e]; rfl) rfl ?_
                        refine j_aload_n C dL_law_405 1 rfl ?_
                        refine j_aload_n C dL_law_406 0 rfl ?_
                        refine j_iload_n C dL_law_407 3 rfl ?_
                        refine j_iconst (v := 1) C dL_law_408 jc_ic_1 ?_
                        refine j_iadd C dL_law_409 ?_
                        refine j_sld C hX dL_law_410 hE (fun v58 hE => ?_)
                        refine j_aload_n C dL_law_411 0 rfl ?_
                        refine j_iload_n C dL_law_412 3 rfl ?_
                        refine j_iconst (v := 2) C dL_law_413 jc_ic_2 ?_
                        refine j_iadd C dL_law_414 ?_
                        refine j_sld C hX dL_law_415 hE (fun v59 hE => ?_)
                        refine k_L_52_X11_of C dL_law_416 hE (Nat.le_of_ble_eq_true rfl) (Nat.le_of_ble_eq_true rfl) (Nat.le_of_ble_eq_true rfl) (fun v61 S60 hE => ?_)
                        refine j_aload_n C dL_law_419 2 rfl ?_
                        refine j_aload_n C dL_law_420 0 rfl ?_
                        refine j_iload_n C dL_law_421 3 rfl ?_
                        refine j_iconst (v := 1) C dL_law_422 jc_ic_1 ?_
                        refine j_iadd C dL_law_423 ?_
                        refine j_sld C hX dL_law_424 hE (fun v62 hE => ?_)
                        refine j_aload_n C dL_law_425 0 rfl ?_
                        refine j_iload_n C dL_law_426 3 rfl ?_
                        refine j_iconst (v := 2) C dL_law_427 jc_ic_2 ?_
                        refine j_iadd C dL_law_428 ?_
                        refine j_sld C hX dL_law_429 hE (fun v63 hE => ?_)
                        refine k_L_55_X12_of C dL_law_430 hE (Nat.le_of_ble_eq_true rfl) (Nat.le_of_ble_eq_true rfl) (Nat.le_of_ble_eq_true rfl) (fun v65 S64 hE => ?_)
                        refine j_icmp_eq (tgt := 1015) C dL_law_433 rfl hE (fun hE => ?_) (fun hE => ?_)
                        · exact p_L_law_1015 C Q hX hg hk219 hk252 hk285 hk308 hk341 hk354 hk377 hk390 hk403 hk436 hk469 hk492 hk505 hk528 hk541 hk554 hk577 hk610 hk623 hk646 hk679 hk702 hk715 hk758 hk781 hk804 hk827 hk850 hk883 hk907 hk930 hk953 hk976 hk999 hk1013 hk1021 x3 S64 hE
                        · refine j_sub [] rfl ?_
                          exact hk436  S64 hE
                      · skip
                        refine j_case hE (fun e hE => ?_) (fun e10 hE => ?_)
                        · refine j_tin (tgt := 438) C dL_law_32 (by rw [e]; decide) (by rw [e]; decide) (by rw [e]; rfl) rfl ?_
                          refine j_aload_n C dL_law_438 1 rfl ?_
                          refine j_aload_n C dL_law_439 0 rfl ?_
                          refine j_iload_n C dL_law_440 3 rfl ?_
                          refine j_iconst (v := 1) C dL_law_441 jc_ic_1 ?_
                          refine j_iadd C dL_law_442 ?_
                          refine j_sld C hX dL_law_443 hE (fun v66 hE => ?_)
                          refine j_aload_n C dL_law_444 0 rfl ?_
                          refine j_iload_n C dL_law_445 3 rfl ?_
                          refine j_iconst (v := 2) C dL_law_446 jc_ic_2 ?_
                          refine j_iadd C dL_law_447 ?_
                          refine j_sld C hX dL_law_448 hE (fun v67 hE => ?_)
                          refine k_L_56_X11_may C dL_law_449 hE (Nat.le_of_ble_eq_true rfl) (Nat.le_of_ble_eq_true rfl) (Nat.le_of_ble_eq_true rfl) (fun v69 S68 hE => ?_)
                          refine j_aload_n C dL_law_452 2 rfl ?_
                          refine j_aload_n C dL_law_453 0 rfl ?_
                          refine j_iload_n C dL_law_454 3 rfl ?_
                          refine j_iconst (v := 1) C dL_law_455 jc_ic_1 ?_
                          refine j_iadd C dL_law_456 ?_
                          refine j_sld C hX dL_law_457 hE (fun v70 hE => ?_)
                          refine j_aload_n C dL_law_458 0 rfl ?_
                          refine j_iload_n C dL_law_459 3 rfl ?_
                          refine j_iconst (v := 2) C dL_law_460 jc_ic_2 ?_
                          refine j_iadd C dL_law_461 ?_
                          refine j_sld C hX dL_law_462 hE (fun v71 hE => ?_)
                          refine k_L_59_X12_may C dL_law_463 hE (Nat.le_of_ble_eq_true rfl) (Nat.le_of_ble_eq_true rfl) (Nat.le_of_ble_eq_true rfl) (fun v73 S72 hE => ?_)
                          refine j_icmp_eq (tgt := 1015) C dL_law_466 rfl hE (fun hE => ?_) (fun hE => ?_)
                          · exact p_L_law_1015 C Q hX hg hk219 hk252 hk285 hk308 hk341 hk354 hk377 hk390 hk403 hk436 hk469 hk492 hk505 hk528 hk541 hk554 hk577 hk610 hk623 hk646 hk679 hk702 hk715 hk758 hk781 hk804 hk827 hk850 hk883 hk907 hk930 hk953 hk976 hk999 hk1013 hk1021 x3 S72 hE
                          · refine j_sub [] rfl ?_
                            exact hk469  S72 hE
                        · skip
                          refine j_case hE (fun e hE => ?_) (fun e11 hE => ?_)
                          · refine j_tin (tgt := 471) C dL_law_32 (by rw [e]; decide) (by rw [e]; decide) (by rw [e]; rfl) rfl ?_
                            refine j_aload_n C dL_law_471 1 rfl ?_
                            refine j_aload_n C dL_law_472 0 rfl ?_
                            refine j_iload_n C dL_law_473 3 rfl ?_
                            refine j_iconst (v := 1) C dL_law_474 jc_ic_1 ?_
                            refine j_iadd C dL_law_475 ?_
                            refine j_sld C hX dL_law_476 hE (fun v74 hE => ?_)
                            refine k_L_60_X11_quarrels C dL_law_477 hE (Nat.le_of_ble_eq_true rfl) (Nat.le_of_ble_eq_true rfl) (Nat.le_of_ble_eq_true rfl) (fun v76 S75 hE => ?_)
                            refine j_aload_n C dL_law_480 2 rfl ?_
                            refine j_aload_n C dL_law_481 0 rfl ?_
                            refine j_iload_n C dL_law_482 3 rfl ?_
                            refine j_iconst (v := 1) C dL_law_483 jc_ic_1 ?_
                            refine j_iadd C dL_law_484 ?_
                            refine j_sld C hX dL_law_485 hE (fun v77 hE => ?_)
                            refine k_L_63_X12_quarrels C dL_law_486 hE (Nat.le_of_ble_eq_true rfl) (Nat.le_of_ble_eq_true rfl) (Nat.le_of_ble_eq_true rfl) (fun v79 S78 hE => ?_)
                            refine j_icmp_eq (tgt := 1015) C dL_law_489 rfl hE (fun hE => ?_) (fun hE => ?_)
                            · exact p_L_law_1015 C Q hX hg hk219 hk252 hk285 hk308 hk341 hk354 hk377 hk390 hk403 hk436 hk469 hk492 hk505 hk528 hk541 hk554 hk577 hk610 hk623 hk646 hk679 hk702 hk715 hk758 hk781 hk804 hk827 hk850 hk883 hk907 hk930 hk953 hk976 hk999 hk1013 hk1021 x3 S78 hE
                            · refine j_sub [] rfl ?_
                              exact hk492  S78 hE
                          · skip
                            refine j_case hE (fun e hE => ?_) (fun e12 hE => ?_)
                            · refine j_tin (tgt := 494) C dL_law_32 (by rw [e]; decide) (by rw [e]; decide) (by rw [e]; rfl) rfl ?_
                              refine j_aload_n C dL_law_494 1 rfl ?_
                              refine k_L_64_X11_away C dL_law_495 hE (Nat.le_of_ble_eq_true rfl) (Nat.le_of_ble_eq_true rfl) (Nat.le_of_ble_eq_true rfl) (fun v81 S80 hE => ?_)
                              refine j_aload_n C dL_law_498 2 rfl ?_
                              refine k_L_67_X12_away C dL_law_499 hE (Nat.le_of_ble_eq_true rfl) (Nat.le_of_ble_eq_true rfl) (Nat.le_of_ble_eq_true rfl) (fun v83 S82 hE => ?_)
                              refine j_icmp_eq (tgt := 1015) C dL_law_502 rfl hE (fun hE => ?_) (fun hE => ?_)
                              · exact p_L_law_1015 C Q hX hg hk219 hk252 hk285 hk308 hk341 hk354 hk377 hk390 hk403 hk436 hk469 hk492 hk505 hk528 hk541 hk554 hk577 hk610 hk623 hk646 hk679 hk702 hk715 hk758 hk781 hk804 hk827 hk850 hk883 hk907 hk930 hk953 hk976 hk999 hk1013 hk1021 x3 S82 hE
                              · refine j_sub [] rfl ?_
                                exact hk505  S82 hE
                            · skip
                              refine j_case hE (fun e hE => ?_) (fun e13 hE => ?_)
                              · refine j_tin (tgt := 507) C dL_law_32 (by rw [e]; decide) (by rw [e]; decide) (by rw [e]; rfl) rfl ?_
                                refine j_aload_n C dL_law_507 1 rfl ?_
                                refine j_aload_n C dL_law_508 0 rfl ?_
                                refine j_iload_n C dL_law_509 3 rfl ?_
                                refine j_iconst (v := 1) C dL_law_510 jc_ic_1 ?_
                                refine j_iadd C dL_law_511 ?_
                                refine j_sld C hX dL_law_512 hE (fun v84 hE => ?_)
                                refine k_L_68_X11_orders C dL_law_513 hE (Nat.le_of_ble_eq_true rfl) (Nat.le_of_ble_eq_true rfl) (Nat.le_of_ble_eq_true rfl) (fun v86 S85 hE => ?_)
                                refine j_aload_n C dL_law_516 2 rfl ?_
                                refine j_aload_n C dL_law_517 0 rfl ?_
                                refine j_iload_n C dL_law_518 3 rfl ?_
                                refine j_iconst (v := 1) C dL_law_519 jc_ic_1 ?_
                                refine j_iadd C dL_law_520 ?_
                                refine j_sld C hX dL_law_521 hE (fun v87 hE => ?_)
                                refine k_L_71_X12_orders C dL_law_522 hE (Nat.le_of_ble_eq_true rfl) (Nat.le_of_ble_eq_true rfl) (Nat.le_of_ble_eq_true rfl) (fun v89 S88 hE => ?_)
                                refine j_icmp_eq (tgt := 1015) C dL_law_525 rfl hE (fun hE => ?_) (fun hE => ?_)
                                · exact p_L_law_1015 C Q hX hg hk219 hk252 hk285 hk308 hk341 hk354 hk377 hk390 hk403 hk436 hk469 hk492 hk505 hk528 hk541 hk554 hk577 hk610 hk623 hk646 hk679 hk702 hk715 hk758 hk781 hk804 hk827 hk850 hk883 hk907 hk930 hk953 hk976 hk999 hk1013 hk1021 x3 S88 hE
                                · refine j_sub [] rfl ?_
                                  exact hk528  S88 hE
                              · skip
                                refine j_case hE (fun e hE => ?_) (fun e14 hE => ?_)
                                · refine j_tin (tgt := 530) C dL_law_32 (by rw [e]; decide) (by rw [e]; decide) (by rw [e]; rfl) rfl ?_
                                  refine j_aload_n C dL_law_530 1 rfl ?_
                                  refine k_L_72_X11_moved C dL_law_531 hE (Nat.le_of_ble_eq_true rfl) (Nat.le_of_ble_eq_true rfl) (Nat.le_of_ble_eq_true rfl) (fun v91 S90 hE => ?_)
                                  refine j_aload_n C dL_law_534 2 rfl ?_
                                  refine k_L_75_X12_moved C dL_law_535 hE (Nat.le_of_ble_eq_true rfl) (Nat.le_of_ble_eq_true rfl) (Nat.le_of_ble_eq_true rfl) (fun v93 S92 hE => ?_)
                                  refine j_icmp_eq (tgt := 1015) C dL_law_538 rfl hE (fun hE => ?_) (fun hE => ?_)
                                  · exact p_L_law_1015 C Q hX hg hk219 hk252 hk285 hk308 hk341 hk354 hk377 hk390 hk403 hk436 hk469 hk492 hk505 hk528 hk541 hk554 hk577 hk610 hk623 hk646 hk679 hk702 hk715 hk758 hk781 hk804 hk827 hk850 hk883 hk907 hk930 hk953 hk976 hk999 hk1013 hk1021 x3 S92 hE
                                  · refine j_sub [] rfl ?_
                                    exact hk541  S92 hE
                                · skip
                                  refine j_case hE (fun e hE => ?_) (fun e15 hE => ?_)
                                  · refine j_tin (tgt := 543) C dL_law_32 (by rw [e]; decide) (by rw [e]; decide) (by rw [e]; rfl) rfl ?_
                                    refine j_aload_n C dL_law_543 1 rfl ?_
                                    refine k_L_76_X11_longest C dL_law_544 hE (Nat.le_of_ble_eq_true rfl) (Nat.le_of_ble_eq_true rfl) (Nat.le_of_ble_eq_true rfl) (fun v95 S94 hE => ?_)
                                    refine j_aload_n C dL_law_547 2 rfl ?_
                                    refine k_L_79_X12_longest C dL_law_548 hE (Nat.le_of_ble_eq_true rfl) (Nat.le_of_ble_eq_true rfl) (Nat.le_of_ble_eq_true rfl) (fun v97 S96 hE => ?_)
                                    refine j_icmp_eq (tgt := 1015) C dL_law_551 rfl hE (fun hE => ?_) (fun hE => ?_)
                                    · exact p_L_law_1015 C Q hX hg hk219 hk252 hk285 hk308 hk341 hk354 hk377 hk390 hk403 hk436 hk469 hk492 hk505 hk528 hk541 hk554 hk577 hk610 hk623 hk646 hk679 hk702 hk715 hk758 hk781 hk804 hk827 hk850 hk883 hk907 hk930 hk953 hk976 hk999 hk1013 hk1021 x3 S96 hE
                                    · refine j_sub [] rfl ?_
                                      exact hk554  S96 hE
                                  · skip
                                    refine j_case hE (fun e hE => ?_) (fun e16 hE => ?_)
                                    · refine j_tin (tgt := 556) C dL_law_32 (by rw [e]; decide) (by rw [e]; decide) (by rw [e]; rfl) rfl ?_
                                      refine j_aload_n C dL_law_556 1 rfl ?_
                                      refine j_aload_n C dL_law_557 0 rfl ?_
                                      refine j_iload_n C dL_law_558 3 rfl ?_
                                      refine j_iconst (v := 1) C dL_law_559 jc_ic_1 ?_
                                      refine j_iadd C dL_law_560 ?_
                                      refine j_sld C hX dL_law_561 hE (fun v98 hE => ?_)
                                      refine k_L_80_X11_greatest C dL_law_562 hE (Nat.le_of_ble_eq_true rfl) (Nat.le_of_ble_eq_true rfl) (Nat.le_of_ble_eq_true rfl) (fun v100 S99 hE => ?_)
                                      refine j_aload_n C dL_law_565 2 rfl ?_
                                      refine j_aload_n C dL_law_566 0 rfl ?_
                                      refine j_iload_n C dL_law_567 3 rfl ?_
                                      refine j_iconst (v := 1) C dL_law_568 jc_ic_1 ?_
                                      refine j_iadd C dL_law_569 ?_
                                      refine j_sld C hX dL_law_570 hE (fun v101 hE => ?_)
                                      refine k_L_83_X12_greatest C dL_law_571 hE (Nat.le_of_ble_eq_true rfl) (Nat.le_of_ble_eq_true rfl) (Nat.le_of_ble_eq_true rfl) (fun v103 S102 hE => ?_)
                                      refine j_icmp_eq (tgt := 1015) C dL_law_574 rfl hE (fun hE => ?_) (fun hE => ?_)
                                      · exact p_L_law_1015 C Q hX hg hk219 hk252 hk285 hk308 hk341 hk354 hk377 hk390 hk403 hk436 hk469 hk492 hk505 hk528 hk541 hk554 hk577 hk610 hk623 hk646 hk679 hk702 hk715 hk758 hk781 hk804 hk827 hk850 hk883 hk907 hk930 hk953 hk976 hk999 hk1013 hk1021 x3 S102 hE
                                      · refine j_sub [] rfl ?_
                                        exact hk577  S102 hE
                                    · skip
                                      refine j_case hE (fun e hE => ?_) (fun e17 hE => ?_)
                                      · refine j_tin (tgt := 579) C dL_law_32 (by rw [e]; decide) (by rw [e]; decide) (by rw [e]; rfl) rfl ?_
                                        refine j_aload_n C dL_law_579 1 rfl ?_
                                        refine j_aload_n C dL_law_580 0 rfl ?_
                                        refine j_iload_n C dL_law_581 3 rfl ?_
                                        refine j_iconst (v := 1) C dL_law_582 jc_ic_1 ?_
                                        refine j_iadd C dL_law_583 ?_
                                        refine j_sld C hX dL_law_584 hE (fun v104 hE => ?_)
                                        refine j_aload_n C dL_law_585 0 rfl ?_
                                        refine j_iload_n C dL_law_586 3 rfl ?_
                                        refine j_iconst (v := 2) C dL_law_587 jc_ic_2 ?_
                                        refine j_iadd C dL_law_588 ?_
                                        refine j_sld C hX dL_law_589 hE (fun v105 hE => ?_)
                                        refine k_L_84_X11_chain C dL_law_590 hE (Nat.le_of_ble_eq_true rfl) (Nat.le_of_ble_eq_true rfl) (Nat.le_of_ble_eq_true rfl) (fun v107 S106 hE => ?_)
                                        refine j_aload_n C dL_law_593 2 rfl ?_
                                        refine j_aload_n C dL_law_594 0 rfl ?_
                                        refine j_iload_n C dL_law_595 3 rfl ?_
                                        refine j_iconst (v := 1) C dL_law_596 jc_ic_1 ?_
                                        refine j_iadd C dL_law_597 ?_
                                        refine j_sld C hX dL_law_598 hE (fun v108 hE => ?_)
                                        refine j_aload_n C dL_law_599 0 rfl ?_
                                        refine j_iload_n C dL_law_600 3 rfl ?_
                                        refine j_iconst (v := 2) C dL_law_601 jc_ic_2 ?_
                                        refine j_iadd C dL_law_602 ?_
                                        refine j_sld C hX dL_law_603 hE (fun v109 hE => ?_)
                                        refine k_L_87_X12_chain C dL_law_604 hE (Nat.le_of_ble_eq_true rfl) (Nat.le_of_ble_eq_true rfl) (Nat.le_of_ble_eq_true rfl) (fun v111 S110 hE => ?_)
                                        refine j_icmp_eq (tgt := 1015) C dL_law_607 rfl hE (fun hE => ?_) (fun hE => ?_)
                                        · exact p_L_law_1015 C Q hX hg hk219 hk252 hk285 hk308 hk341 hk354 hk377 hk390 hk403 hk436 hk469 hk492 hk505 hk528 hk541 hk554 hk577 hk610 hk623 hk646 hk679 hk702 hk715 hk758 hk781 hk804 hk827 hk850 hk883 hk907 hk930 hk953 hk976 hk999 hk1013 hk1021 x3 S110 hE
                                        · refine j_sub [] rfl ?_
                                          exact hk610  S110 hE
                                      · skip
                                        refine j_case hE (fun e hE => ?_) (fun e18 hE => ?_)
                                        · refine j_tin (tgt := 612) C dL_law_32 (by rw [e]; decide) (by rw [e]; decide) (by rw [e]; rfl) rfl ?_
                                          refine j_aload_n C dL_law_612 1 rfl ?_
                                          refine k_L_88_X11_meet C dL_law_613 hE (Nat.le_of_ble_eq_true rfl) (Nat.le_of_ble_eq_true rfl) (Nat.le_of_ble_eq_true rfl) (fun v113 S112 hE => ?_)
                                          refine j_aload_n C dL_law_616 2 rfl ?_
                                          refine k_L_91_X12_meet C dL_law_617 hE (Nat.le_of_ble_eq_true rfl) (Nat.le_of_ble_eq_true rfl) (Nat.le_of_ble_eq_true rfl) (fun v115 S114 hE => ?_)
                                          refine j_icmp_eq (tgt := 1015) C dL_law_620 rfl hE (fun hE => ?_) (fun hE => ?_)
                                          · exact p_L_law_1015 C Q hX hg hk219 hk252 hk285 hk308 hk341 hk354 hk377 hk390 hk403 hk436 hk469 hk492 hk505 hk528 hk541 hk554 hk577 hk610 hk623 hk646 hk679 hk702 hk715 hk758 hk781 hk804 hk827 hk850 hk883 hk907 hk930 hk953 hk976 hk999 hk1013 hk1021 x3 S114 hE
                                          · refine j_sub [] rfl ?_
                                            exact hk623  S114 hE
                                        · skip
                                          refine j_case hE (fun e hE => ?_) (fun e19 hE => ?_)
                                          · refine j_tin (tgt := 625) C dL_law_32 (by rw [e]; decide) (by rw [e]; decide) (by rw [e]; rfl) rfl ?_
                                            refine j_aload_n C dL_law_625 1 rfl ?_
                                            refine j_aload_n C dL_law_626 0 rfl ?_
                                            refine j_iload_n C dL_law_627 3 rfl ?_
                                            refine j_iconst (v := 1) C dL_law_628 jc_ic_1 ?_
                                            refine j_iadd C dL_law_629 ?_
                                            refine j_sld C hX dL_law_630 hE (fun v116 hE => ?_)
                                            refine k_L_92_X11_next C dL_law_631 hE (Nat.le_of_ble_eq_true rfl) (Nat.le_of_ble_eq_true rfl) (Nat.le_of_ble_eq_true rfl) (fun v118 S117 hE => ?_)
                                            refine j_aload_n C dL_law_634 2 rfl ?_
                                            refine j_aload_n C dL_law_635 0 rfl ?_
                                            refine j_iload_n C dL_law_636 3 rfl ?_
                                            refine j_iconst (v := 1) C dL_law_637 jc_ic_1 ?_
                                            refine j_iadd C dL_law_638 ?_
                                            refine j_sld C hX dL_law_639 hE (fun v119 hE => ?_)
                                            refine k_L_95_X12_next C dL_law_640 hE (Nat.le_of_ble_eq_true rfl) (Nat.le_of_ble_eq_true rfl) (Nat.le_of_ble_eq_true rfl) (fun v121 S120 hE => ?_)
                                            refine j_icmp_eq (tgt := 1015) C dL_law_643 rfl hE (fun hE => ?_) (fun hE => ?_)
                                            · exact p_L_law_1015 C Q hX hg hk219 hk252 hk285 hk308 hk341 hk354 hk377 hk390 hk403 hk436 hk469 hk492 hk505 hk528 hk541 hk554 hk577 hk610 hk623 hk646 hk679 hk702 hk715 hk758 hk781 hk804 hk827 hk850 hk883 hk907 hk930 hk953 hk976 hk999 hk1013 hk1021 x3 S120 hE
                                            · refine j_sub [] rfl ?_
                                              exact hk646  S120 hE
                                          · skip
                                            refine j_case hE (fun e hE => ?_) (fun e20 hE => ?_)
                                            · refine j_tin (tgt := 648) C dL_law_32 (by rw [e]; decide) (by rw [e]; decide) (by rw [e]; rfl) rfl ?_
                                              refine j_aload_n C dL_law_648 1 rfl ?_
                                              refine j_aload_n C dL_law_649 0 rfl ?_
                                              refine j_iload_n C dL_law_650 3 rfl ?_
                                              refine j_iconst (v := 1) C dL_law_651 jc_ic_1 ?_
                                              refine j_iadd C dL_law_652 ?_
                                              refine j_sld C hX dL_law_653 hE (fun v122 hE => ?_)
                                              refine j_aload_n C dL_law_654 0 rfl ?_
                                              refine j_iload_n C dL_law_655 3 rfl ?_
                                              refine j_iconst (v := 2) C dL_law_656 jc_ic_2 ?_
                                              refine j_iadd C dL_law_657 ?_
                                              refine j_sld C hX dL_law_658 hE (fun v123 hE => ?_)
                                              refine k_L_96_X11_reading C dL_law_659 hE (Nat.le_of_ble_eq_true rfl) (Nat.le_of_ble_eq_true rfl) (Nat.le_of_ble_eq_true rfl) (fun v125 S124 hE => ?_)
                                              refine j_aload_n C dL_law_662 2 rfl ?_
                                              refine j_aload_n C dL_law_663 0 rfl ?_
                                              refine j_iload_n C dL_law_664 3 rfl ?_
                                              refine j_iconst (v := 1) C dL_law_665 jc_ic_1 ?_
                                              refine j_iadd C dL_law_666 ?_
                                              refine j_sld C hX dL_law_667 hE (fun v126 hE => ?_)
                                              refine j_aload_n C dL_law_668 0 rfl ?_
                                              refine j_iload_n C dL_law_669 3 rfl ?_
                                              refine j_iconst (v := 2) C dL_law_670 jc_ic_2 ?_
                                              refine j_iadd C dL_law_671 ?_
                                              refine j_sld C hX dL_law_672 hE (fun v127 hE => ?_)
                                              refine k_L_99_X12_reading C dL_law_673 hE (Nat.le_of_ble_eq_true rfl) (Nat.le_of_ble_eq_true rfl) (Nat.le_of_ble_eq_true rfl) (fun v129 S128 hE => ?_)
                                              refine j_icmp_eq (tgt := 1015) C dL_law_676 rfl hE (fun hE => ?_) (fun hE => ?_)
                                              · exact p_L_law_1015 C Q hX hg hk219 hk252 hk285 hk308 hk341 hk354 hk377 hk390 hk403 hk436 hk469 hk492 hk505 hk528 hk541 hk554 hk577 hk610 hk623 hk646 hk679 hk702 hk715 hk758 hk781 hk804 hk827 hk850 hk883 hk907 hk930 hk953 hk976 hk999 hk1013 hk1021 x3 S128 hE
                                              · refine j_sub [] rfl ?_
                                                exact hk679  S128 hE
                                            · skip
                                              refine j_case hE (fun e hE => ?_) (fun e21 hE => ?_)
                                              · refine j_tin (tgt := 681) C dL_law_32 (by rw [e]; decide) (by rw [e]; decide) (by rw [e]; rfl) rfl ?_
                                                refine j_aload_n C dL_law_681 1 rfl ?_
                                                refine j_aload_n C dL_law_682 0 rfl ?_
                                                refine j_iload_n C dL_law_683 3 rfl ?_
                                                refine j_iconst (v := 1) C dL_law_684 jc_ic_1 ?_
                                                refine j_iadd C dL_law_685 ?_
                                                refine j_sld C hX dL_law_686 hE (fun v130 hE => ?_)
                                                refine k_L_100_X11_who C dL_law_687 hE (Nat.le_of_ble_eq_true rfl) (Nat.le_of_ble_eq_true rfl) (Nat.le_of_ble_eq_true rfl) (fun v132 S131 hE => ?_)
                                                refine j_aload_n C dL_law_690 2 rfl ?_
                                                refine j_aload_n C dL_law_691 0 rfl ?_
                                                refine j_iload_n C dL_law_692 3 rfl ?_
                                                refine j_iconst (v := 1) C dL_law_693 jc_ic_1 ?_
                                                refine j_iadd C dL_law_694 ?_
                                                refine j_sld C hX dL_law_695 hE (fun v133 hE => ?_)
                                                refine k_L_103_X12_who C dL_law_696 hE (Nat.le_of_ble_eq_true rfl) (Nat.le_of_ble_eq_true rfl) (Nat.le_of_ble_eq_true rfl) (fun v135 S134 hE => ?_)
                                                refine j_icmp_eq (tgt := 1015) C dL_law_699 rfl hE (fun hE => ?_) (fun hE => ?_)
                                                · exact p_L_law_1015 C Q hX hg hk219 hk252 hk285 hk308 hk341 hk354 hk377 hk390 hk403 hk436 hk469 hk492 hk505 hk528 hk541 hk554 hk577 hk610 hk623 hk646 hk679 hk702 hk715 hk758 hk781 hk804 hk827 hk850 hk883 hk907 hk930 hk953 hk976 hk999 hk1013 hk1021 x3 S134 hE
                                                · refine j_sub [] rfl ?_
                                                  exact hk702  S134 hE
                                              · skip
                                                refine j_case hE (fun e hE => ?_) (fun e22 hE => ?_)
                                                · refine j_tin (tgt := 704) C dL_law_32 (by rw [e]; decide) (by rw [e]; decide) (by rw [e]; rfl) rfl ?_
                                                  refine j_aload_n C dL_law_704 1 rfl ?_
                                                  refine k_L_104_X11_tryNext C dL_law_705 hE (Nat.le_of_ble_eq_true rfl) (Nat.le_of_ble_eq_true rfl) (Nat.le_of_ble_eq_true rfl) (fun v137 S136 hE => ?_)
                                                  refine j_aload_n C dL_law_708 2 rfl ?_
                                                  refine k_L_107_X12_tryNext C dL_law_709 hE (Nat.le_of_ble_eq_true rfl) (Nat.le_of_ble_eq_true rfl) (Nat.le_of_ble_eq_true rfl) (fun v139 S138 hE => ?_)
                                                  refine j_icmp_eq (tgt := 1015) C dL_law_712 rfl hE (fun hE => ?_) (fun hE => ?_)
                                                  · exact p_L_law_1015 C Q hX hg hk219 hk252 hk285 hk308 hk341 hk354 hk377 hk390 hk403 hk436 hk469 hk492 hk505 hk528 hk541 hk554 hk577 hk610 hk623 hk646 hk679 hk702 hk715 hk758 hk781 hk804 hk827 hk850 hk883 hk907 hk930 hk953 hk976 hk999 hk1013 hk1021 x3 S138 hE
                                                  · refine j_sub [] rfl ?_
                                                    exact hk715  S138 hE
                                                · skip
                                                  refine j_case hE (fun e hE => ?_) (fun e23 hE => ?_)
                                                  · refine j_tin (tgt := 717) C dL_law_32 (by rw [e]; decide) (by rw [e]; decide) (by rw [e]; rfl) rfl ?_
                                                    refine j_aload_n C dL_law_717 1 rfl ?_
                                                    refine j_aload_n C dL_law_718 0 rfl ?_
                                                    refine j_iload_n C dL_law_719 3 rfl ?_
                                                    refine j_iconst (v := 1) C dL_law_720 jc_ic_1 ?_
                                                    refine j_iadd C dL_law_721 ?_
                                                    refine j_sld C hX dL_law_722 hE (fun v140 hE => ?_)
                                                    refine j_aload_n C dL_law_723 0 rfl ?_
                                                    refine j_iload_n C dL_law_724 3 rfl ?_
                                                    refine j_iconst (v := 2) C dL_law_725 jc_ic_2 ?_
                                                    refine j_iadd C dL_law_726 ?_
                                                    refine j_sld C hX dL_law_727 hE (fun v141 hE => ?_)
                                                    refine j_aload_n C dL_law_728 0 rfl ?_
                                                    refine j_iload_n C dL_law_729 3 rfl ?_
                                                    refine j_iconst (v := 3) C dL_law_730 jc_ic_3 ?_
                                                    refine j_iadd C dL_law_731 ?_
                                                    refine j_sld C hX dL_law_732 hE (fun v142 hE => ?_)
                                                    refine k_L_108_X11_note C dL_law_733 hE (Nat.le_of_ble_eq_true rfl) (Nat.le_of_ble_eq_true rfl) (Nat.le_of_ble_eq_true rfl) (fun v144 S143 hE => ?_)
                                                    refine j_aload_n C dL_law_736 2 rfl ?_
                                                    refine j_aload_n C dL_law_737 0 rfl ?_
                                                    refine j_iload_n C dL_law_738 3 rfl ?_
                                                    refine j_iconst (v := 1) C dL_law_739 jc_ic_1 ?_
                                                    refine j_iadd C dL_law_740 ?_
                                                    refine j_sld C hX dL_law_741 hE (fun v145 hE => ?_)
                                                    refine j_aload_n C dL_law_742 0 rfl ?_
                                                    refine j_iload_n C dL_law_743 3 rfl ?_
                                                    refine j_iconst (v := 2) C dL_law_744 jc_ic_2 ?_
                                                    refine j_iadd C dL_law_745 ?_
                                                    refine j_sld C hX dL_law_746 hE (fun v146 hE => ?_)
                                                    refine j_aload_n C dL_law_747 0 rfl ?_
                                                    refine j_iload_n C dL_law_748 3 rfl ?_
                                                    refine j_iconst (v := 3) C dL_law_749 jc_ic_3 ?_
                                                    refine j_iadd C dL_law_750 ?_
                                                    refine j_sld C hX dL_law_751 hE (fun v147 hE => ?_)
                                                    refine k_L_112_X12_note C dL_law_752 hE (Nat.le_of_ble_eq_true rfl) (Nat.le_of_ble_eq_true rfl) (Nat.le_of_ble_eq_true rfl) (fun v149 S148 hE => ?_)
                                                    refine j_icmp_eq (tgt := 1015) C dL_law_755 rfl hE (fun hE => ?_) (fun hE => ?_)
                                                    · exact p_L_law_1015 C Q hX hg hk219 hk252 hk285 hk308 hk341 hk354 hk377 hk390 hk403 hk436 hk469 hk492 hk505 hk528 hk541 hk554 hk577 hk610 hk623 hk646 hk679 hk702 hk715 hk758 hk781 hk804 hk827 hk850 hk883 hk907 hk930 hk953 hk976 hk999 hk1013 hk1021 x3 S148 hE
                                                    · refine j_sub [] rfl ?_
                                                      exact hk758  S148 hE
                                                  · skip
                                                    refine j_case hE (fun e hE => ?_) (fun e24 hE => ?_)
                                                    · refine j_tin (tgt := 760) C dL_law_32 (by rw [e]; decide) (by rw [e]; decide) (by rw [e]; rfl) rfl ?_
                                                      refine j_aload_n C dL_law_760 1 rfl ?_
                                                      refine j_aload_n C dL_law_761 0 rfl ?_
                                                      refine j_iload_n C dL_law_762 3 rfl ?_
                                                      refine j_iconst (v := 1) C dL_law_763 jc_ic_1 ?_
                                                      refine j_iadd C dL_law_764 ?_
                                                      refine j_sld C hX dL_law_765 hE (fun v150 hE => ?_)
                                                      refine k_L_113_X11_laws C dL_law_766 hE (Nat.le_of_ble_eq_true rfl) (Nat.le_of_ble_eq_true rfl) (Nat.le_of_ble_eq_true rfl) (fun v152 S151 hE => ?_)
                                                      refine j_aload_n C dL_law_769 2 rfl ?_
                                                      refine j_aload_n C dL_law_770 0 rfl ?_
                                                      refine j_iload_n C dL_law_771 3 rfl ?_
                                                      refine j_iconst (v := 1) C dL_law_772 jc_ic_1 ?_
                                                      refine j_iadd C dL_law_773 ?_
                                                      refine j_sld C hX dL_law_774 hE (fun v153 hE => ?_)
                                                      refine k_L_116_X12_laws C dL_law_775 hE (Nat.le_of_ble_eq_true rfl) (Nat.le_of_ble_eq_true rfl) (Nat.le_of_ble_eq_true rfl) (fun v155 S154 hE => ?_)
                                                      refine j_icmp_eq (tgt := 1015) C dL_law_778 rfl hE (fun hE => ?_) (fun hE => ?_)
                                                      · exact p_L_law_1015 C Q hX hg hk219 hk252 hk285 hk308 hk341 hk354 hk377 hk390 hk403 hk436 hk469 hk492 hk505 hk528 hk541 hk554 hk577 hk610 hk623 hk646 hk679 hk702 hk715 hk758 hk781 hk804 hk827 hk850 hk883 hk907 hk930 hk953 hk976 hk999 hk1013 hk1021 x3 S154 hE
                                                      · refine j_sub [] rfl ?_
                                                        exact hk781  S154 hE
                                                    · skip
                                                      refine j_case hE (fun e hE => ?_) (fun e25 hE => ?_)
                                                      · refine j_tin (tgt := 783) C dL_law_32 (by rw [e]; decide) (by rw [e]; decide) (by rw [e]; rfl) rfl ?_
                                                        refine j_aload_n C dL_law_783 1 rfl ?_
                                                        refine j_aload_n C dL_law_784 0 rfl ?_
                                                        refine j_iload_n C dL_law_785 3 rfl ?_
                                                        refine j_iconst (v := 1) C dL_law_786 jc_ic_1 ?_
                                                        refine j_iadd C dL_law_787 ?_
                                                        refine j_sld C hX dL_law_788 hE (fun v156 hE => ?_)
                                                        refine k_L_117_X11_forget C dL_law_789 hE (Nat.le_of_ble_eq_true rfl) (Nat.le_of_ble_eq_true rfl) (Nat.le_of_ble_eq_true rfl) (fun v158 S157 hE => ?_)
                                                        refine j_aload_n C dL_law_792 2 rfl ?_
                                                        refine j_aload_n C dL_law_793 0 rfl ?_
                                                        refine j_iload_n C dL_law_794 3 rfl ?_
                                                        refine j_iconst (v := 1) C dL_law_795 jc_ic_1 ?_
                                                        refine j_iadd C dL_law_796 ?_
                                                        refine j_sld C hX dL_law_797 hE (fun v159 hE => ?_)
                                                        refine k_L_120_X12_forget C dL_law_798 hE (Nat.le_of_ble_eq_true rfl) (Nat.le_of_ble_eq_true rfl) (Nat.le_of_ble_eq_true rfl) (fun v161 S160 hE => ?_)
                                                        refine j_icmp_eq (tgt := 1015) C dL_law_801 rfl hE (fun hE => ?_) (fun hE => ?_)
                                                        · exact p_L_law_1015 C Q hX hg hk219 hk252 hk285 hk308 hk341 hk354 hk377 hk390 hk403 hk436 hk469 hk492 hk505 hk528 hk541 hk554 hk577 hk610 hk623 hk646 hk679 hk702 hk715 hk758 hk781 hk804 hk827 hk850 hk883 hk907 hk930 hk953 hk976 hk999 hk1013 hk1021 x3 S160 hE
                                                        · refine j_sub [] rfl ?_
                                                          exact hk804  S160 hE
                                                      · skip
                                                        refine j_case hE (fun e hE => ?_) (fun e26 hE => ?_)
                                                        · refine j_tin (tgt := 806) C dL_law_32 (by rw [e]; decide) (by rw [e]; decide) (by rw [e]; rfl) rfl ?_
                                                          refine j_aload_n C dL_law_806 1 rfl ?_
                                                          refine j_aload_n C dL_law_807 0 rfl ?_
                                                          refine j_iload_n C dL_law_808 3 rfl ?_
                                                          refine j_iconst (v := 1) C dL_law_809 jc_ic_1 ?_
                                                          refine j_iadd C dL_law_810 ?_
                                                          refine j_sld C hX dL_law_811 hE (fun v162 hE => ?_)
                                                          refine k_L_121_X11_split C dL_law_812 hE (Nat.le_of_ble_eq_true rfl) (Nat.le_of_ble_eq_true rfl) (Nat.le_of_ble_eq_true rfl) (fun v164 S163 hE => ?_)
                                                          refine j_aload_n C dL_law_815 2 rfl ?_
                                                          refine j_aload_n C dL_law_816 0 rfl ?_
                                                          refine j_iload_n C dL_law_817 3 rfl ?_
                                                          refine j_iconst (v := 1) C dL_law_818 jc_ic_1 ?_
                                                          refine j_iadd C dL_law_819 ?_
                                                          refine j_sld C hX dL_law_820 hE (fun v165 hE => ?_)
                                                          refine k_L_124_X12_split C dL_law_821 hE (Nat.le_of_ble_eq_true rfl) (Nat.le_of_ble_eq_true rfl) (Nat.le_of_ble_eq_true rfl) (fun v167 S166 hE => ?_)
                                                          refine j_icmp_eq (tgt := 1015) C dL_law_824 rfl hE (fun hE => ?_) (fun hE => ?_)
                                                          · exact p_L_law_1015 C Q hX hg hk219 hk252 hk285 hk308 hk341 hk354 hk377 hk390 hk403 hk436 hk469 hk492 hk505 hk528 hk541 hk554 hk577 hk610 hk623 hk646 hk679 hk702 hk715 hk758 hk781 hk804 hk827 hk850 hk883 hk907 hk930 hk953 hk976 hk999 hk1013 hk1021 x3 S166 hE
                                                          · refine j_sub [] rfl ?_
                                                            exact hk827  S166 hE
                                                        · skip
                                                          refine j_case hE (fun e hE => ?_) (fun e27 hE => ?_)
                                                          · refine j_tin (tgt := 829) C dL_law_32 (by rw [e]; decide) (by rw [e]; decide) (by rw [e]; rfl) rfl ?_
                                                            refine j_aload_n C dL_law_829 1 rfl ?_
                                                            refine j_aload_n C dL_law_830 0 rfl ?_
                                                            refine j_iload_n C dL_law_831 3 rfl ?_
                                                            refine j_iconst (v := 1) C dL_law_832 jc_ic_1 ?_
                                                            refine j_iadd C dL_law_833 ?_
                                                            refine j_sld C hX dL_law_834 hE (fun v168 hE => ?_)
                                                            refine k_L_125_X11_odds C dL_law_835 hE (Nat.le_of_ble_eq_true rfl) (Nat.le_of_ble_eq_true rfl) (Nat.le_of_ble_eq_true rfl) (fun v170 S169 hE => ?_)
                                                            refine j_aload_n C dL_law_838 2 rfl ?_
                                                            refine j_aload_n C dL_law_839 0 rfl ?_
                                                            refine j_iload_n C dL_law_840 3 rfl ?_
                                                            refine j_iconst (v := 1) C dL_law_841 jc_ic_1 ?_
                                                            refine j_iadd C dL_law_842 ?_
                                                            refine j_sld C hX dL_law_843 hE (fun v171 hE => ?_)
                                                            refine k_L_128_X12_odds C dL_law_844 hE (Nat.le_of_ble_eq_true rfl) (Nat.le_of_ble_eq_true rfl) (Nat.le_of_ble_eq_true rfl) (fun v173 S172 hE => ?_)
                                                            refine j_icmp_eq (tgt := 1015) C dL_law_847 rfl hE (fun hE => ?_) (fun hE => ?_)
                                                            · exact p_L_law_1015 C Q hX hg hk219 hk252 hk285 hk308 hk341 hk354 hk377 hk390 hk403 hk436 hk469 hk492 hk505 hk528 hk541 hk554 hk577 hk610 hk623 hk646 hk679 hk702 hk715 hk758 hk781 hk804 hk827 hk850 hk883 hk907 hk930 hk953 hk976 hk999 hk1013 hk1021 x3 S172 hE
                                                            · refine j_sub [] rfl ?_
                                                              exact hk850  S172 hE
                                                          · skip
                                                            refine j_case hE (fun e hE => ?_) (fun e28 hE => ?_)
                                                            · refine j_tin (tgt := 852) C dL_law_32 (by rw [e]; decide) (by rw [e]; decide) (by rw [e]; rfl) rfl ?_
                                                              refine j_aload_n C dL_law_852 1 rfl ?_
                                                              refine j_aload_n C dL_law_853 0 rfl ?_
                                                              refine j_iload_n C dL_law_854 3 rfl ?_
                                                              refine j_iconst (v := 1) C dL_law_855 jc_ic_1 ?_
                                                              refine j_iadd C dL_law_856 ?_
                                                              refine j_sld C hX dL_law_857 hE (fun v174 hE => ?_)
                                                              refine j_aload_n C dL_law_858 0 rfl ?_
                                                              refine j_iload_n C dL_law_859 3 rfl ?_
                                                              refine j_iconst (v := 2) C dL_law_860 jc_ic_2 ?_
                                                              refine j_iadd C dL_law_861 ?_
                                                              refine j_sld C hX dL_law_862 hE (fun v175 hE => ?_)
                                                              refine k_L_129_X11_streets C dL_law_863 hE (Nat.le_of_ble_eq_true rfl) (Nat.le_of_ble_eq_true rfl) (Nat.le_of_ble_eq_true rfl) (fun v177 S176 hE => ?_)
                                                              refine j_aload_n C dL_law_866 2 rfl ?_
                                                              refine j_aload_n C dL_law_867 0 rfl ?_
                                                              refine j_iload_n C dL_law_868 3 rfl ?_
                                                              refine j_iconst (v := 1) C dL_law_869 jc_ic_1 ?_
                                                              refine j_iadd C dL_law_870 ?_
                                                              refine j_sld C hX dL_law_871 hE (fun v178 hE => ?_)
                                                              refine j_aload_n C dL_law_872 0 rfl ?_
                                                              refine j_iload_n C dL_law_873 3 rfl ?_
                                                              refine j_iconst (v := 2) C dL_law_874 jc_ic_2 ?_
                                                              refine j_iadd C dL_law_875 ?_
                                                              refine j_sld C hX dL_law_876 hE (fun v179 hE => ?_)
                                                              refine k_L_132_X12_streets C dL_law_877 hE (Nat.le_of_ble_eq_true rfl) (Nat.le_of_ble_eq_true rfl) (Nat.le_of_ble_eq_true rfl) (fun v181 S180 hE => ?_)
                                                              refine j_icmp_eq (tgt := 1015) C dL_law_880 rfl hE (fun hE => ?_) (fun hE => ?_)
                                                              · exact p_L_law_1015 C Q hX hg hk219 hk252 hk285 hk308 hk341 hk354 hk377 hk390 hk403 hk436 hk469 hk492 hk505 hk528 hk541 hk554 hk577 hk610 hk623 hk646 hk679 hk702 hk715 hk758 hk781 hk804 hk827 hk850 hk883 hk907 hk930 hk953 hk976 hk999 hk1013 hk1021 x3 S180 hE
                                                              · refine j_sub [] rfl ?_
                                                                exact hk883  S180 hE
                                                            · skip
                                                              refine j_case hE (fun e hE => ?_) (fun e29 hE => ?_)
                                                              · refine j_tin (tgt := 885) C dL_law_32 (by rw [e]; decide) (by rw [e]; decide) (by rw [e]; rfl) rfl ?_
                                                                refine j_aload_n C dL_law_885 1 rfl ?_
                                                                refine j_aload_n C dL_law_886 0 rfl ?_
                                                                refine j_iload_n C dL_law_887 3 rfl ?_
                                                                refine j_iconst (v := 1) C dL_law_888 jc_ic_1 ?_
                                                                refine j_iadd C dL_law_889 ?_
                                                                refine j_sld C hX dL_law_890 hE (fun v182 hE => ?_)
                                                                refine k_L_133_X11_part C dL_law_891 hE (Nat.le_of_ble_eq_true rfl) (Nat.le_of_ble_eq_true rfl) (Nat.le_of_ble_eq_true rfl) (fun v184 S183 hE => ?_)
                                                                refine j_aload_n C dL_law_894 2 rfl ?_
                                                                refine j_aload_n C dL_law_895 0 rfl ?_
                                                                refine j_iload_n C dL_law_896 3 rfl ?_
                                                                refine j_iconst (v := 1) C dL_law_897 jc_ic_1 ?_
                                                                refine j_iadd C dL_law_898 ?_
                                                                refine j_sld C hX dL_law_899 hE (fun v185 hE => ?_)
                                                                refine k_L_137_X12_part C dL_law_900 hE (Nat.le_of_ble_eq_true rfl) (Nat.le_of_ble_eq_true rfl) (Nat.le_of_ble_eq_true rfl) (fun v187 S186 hE => ?_)
                                                                refine j_lcmp C dL_law_903 ?_
                                                                refine j_if_eq (tgt := 1015) C dL_law_904 rfl hE (fun hE => ?_) (fun hE => ?_)
                                                                · exact p_L_law_1015 C Q hX hg hk219 hk252 hk285 hk308 hk341 hk354 hk377 hk390 hk403 hk436 hk469 hk492 hk505 hk528 hk541 hk554 hk577 hk610 hk623 hk646 hk679 hk702 hk715 hk758 hk781 hk804 hk827 hk850 hk883 hk907 hk930 hk953 hk976 hk999 hk1013 hk1021 x3 S186 hE
                                                                · refine j_sub [] rfl ?_
                                                                  exact hk907  S186 hE
                                                              · skip
                                                                refine j_case hE (fun e hE => ?_) (fun e30 hE => ?_)
                                                                · refine j_tin (tgt := 909) C dL_law_32 (by rw [e]; decide) (by rw [e]; decide) (by rw [e]; rfl) rfl ?_
                                                                  refine j_aload_n C dL_law_909 1 rfl ?_
                                                                  refine j_aload_n C dL_law_910 0 rfl ?_
                                                                  refine j_iload_n C dL_law_911 3 rfl ?_
                                                                  refine j_iconst (v := 1) C dL_law_912 jc_ic_1 ?_
                                                                  refine j_iadd C dL_law_913 ?_
                                                                  refine j_sld C hX dL_law_914 hE (fun v188 hE => ?_)
                                                                  refine k_L_138_X11_image C dL_law_915 hE (Nat.le_of_ble_eq_true rfl) (Nat.le_of_ble_eq_true rfl) (Nat.le_of_ble_eq_true rfl) (fun v190 S189 hE => ?_)
                                                                  refine j_aload_n C dL_law_918 2 rfl ?_
                                                                  refine j_aload_n C dL_law_919 0 rfl ?_
                                                                  refine j_iload_n C dL_law_920 3 rfl ?_
                                                                  refine j_iconst (v := 1) C dL_law_921 jc_ic_1 ?_
                                                                  refine j_iadd C dL_law_922 ?_
                                                                  refine j_sld C hX dL_law_923 hE (fun v191 hE => ?_)
                                                                  refine k_L_141_X12_image C dL_law_924 hE (Nat.le_of_ble_eq_true rfl) (Nat.le_of_ble_eq_true rfl) (Nat.le_of_ble_eq_true rfl) (fun v193 S192 hE => ?_)
                                                                  refine j_icmp_eq (tgt := 1015) C dL_law_927 rfl hE (fun hE => ?_) (fun hE => ?_)
                                                                  · exact p_L_law_1015 C Q hX hg hk219 hk252 hk285 hk308 hk341 hk354 hk377 hk390 hk403 hk436 hk469 hk492 hk505 hk528 hk541 hk554 hk577 hk610 hk623 hk646 hk679 hk702 hk715 hk758 hk781 hk804 hk827 hk850 hk883 hk907 hk930 hk953 hk976 hk999 hk1013 hk1021 x3 S192 hE
                                                                  · refine j_sub [] rfl ?_
                                                                    exact hk930  S192 hE
                                                                · skip
                                                                  refine j_case hE (fun e hE => ?_) (fun e31 hE => ?_)
                                                                  · refine j_tin (tgt := 932) C dL_law_32 (by rw [e]; decide) (by rw [e]; decide) (by rw [e]; rfl) rfl ?_
                                                                    refine j_aload_n C dL_law_932 1 rfl ?_
                                                                    refine j_aload_n C dL_law_933 0 rfl ?_
                                                                    refine j_iload_n C dL_law_934 3 rfl ?_
                                                                    refine j_iconst (v := 1) C dL_law_935 jc_ic_1 ?_
                                                                    refine j_iadd C dL_law_936 ?_
                                                                    refine j_sld C hX dL_law_937 hE (fun v194 hE => ?_)
                                                                    refine k_L_142_X11_from C dL_law_938 hE (Nat.le_of_ble_eq_true rfl) (Nat.le_of_ble_eq_true rfl) (Nat.le_of_ble_eq_true rfl) (fun v196 S195 hE => ?_)
                                                                    refine j_aload_n C dL_law_941 2 rfl ?_
                                                                    refine j_aload_n C dL_law_942 0 rfl ?_
                                                                    refine j_iload_n C dL_law_943 3 rfl ?_
                                                                    refine j_iconst (v := 1) C dL_law_944 jc_ic_1 ?_
                                                                    refine j_iadd C dL_law_945 ?_
                                                                    refine j_sld C hX dL_law_946 hE (fun v197 hE => ?_)
                                                                    refine k_L_145_X12_from C dL_law_947 hE (Nat.le_of_ble_eq_true rfl) (Nat.le_of_ble_eq_true rfl) (Nat.le_of_ble_eq_true rfl) (fun v199 S198 hE => ?_)
                                                                    refine j_icmp_eq (tgt := 1015) C dL_law_950 rfl hE (fun hE => ?_) (fun hE => ?_)
                                                                    · exact p_L_law_1015 C Q hX hg hk219 hk252 hk285 hk308 hk341 hk354 hk377 hk390 hk403 hk436 hk469 hk492 hk505 hk528 hk541 hk554 hk577 hk610 hk623 hk646 hk679 hk702 hk715 hk758 hk781 hk804 hk827 hk850 hk883 hk907 hk930 hk953 hk976 hk999 hk1013 hk1021 x3 S198 hE
                                                                    · refine j_sub [] rfl ?_
                                                                      exact hk953  S198 hE
                                                                  · skip
                                                                    refine j_case hE (fun e hE => ?_) (fun e32 hE => ?_)
                                                                    · refine j_tin (tgt := 955) C dL_law_32 (by rw [e]; decide) (by rw [e]; decide) (by rw [e]; rfl) rfl ?_
                                                                      refine j_aload_n C dL_law_955 1 rfl ?_
                                                                      refine j_aload_n C dL_law_956 0 rfl ?_
                                                                      refine j_iload_n C dL_law_957 3 rfl ?_
                                                                      refine j_iconst (v := 1) C dL_law_958 jc_ic_1 ?_
                                                                      refine j_iadd C dL_law_959 ?_
                                                                      refine j_sld C hX dL_law_960 hE (fun v200 hE => ?_)
                                                                      refine k_L_146_X11_status C dL_law_961 hE (Nat.le_of_ble_eq_true rfl) (Nat.le_of_ble_eq_true rfl) (Nat.le_of_ble_eq_true rfl) (fun v202 S201 hE => ?_)
                                                                      refine j_aload_n C dL_law_964 2 rfl ?_
                                                                      refine j_aload_n C dL_law_965 0 rfl ?_
                                                                      refine j_iload_n C dL_law_966 3 rfl ?_
                                                                      refine j_iconst (v := 1) C dL_law_967 jc_ic_1 ?_
                                                                      refine j_iadd C dL_law_968 ?_
                                                                      refine j_sld C hX dL_law_969 hE (fun v203 hE => ?_)
                                                                      refine k_L_149_X12_status C dL_law_970 hE (Nat.le_of_ble_eq_true rfl) (Nat.le_of_ble_eq_true rfl) (Nat.le_of_ble_eq_true rfl) (fun v205 S204 hE => ?_)
                                                                      refine j_icmp_eq (tgt := 1015) C dL_law_973 rfl hE (fun hE => ?_) (fun hE => ?_)
                                                                      · exact p_L_law_1015 C Q hX hg hk219 hk252 hk285 hk308 hk341 hk354 hk377 hk390 hk403 hk436 hk469 hk492 hk505 hk528 hk541 hk554 hk577 hk610 hk623 hk646 hk679 hk702 hk715 hk758 hk781 hk804 hk827 hk850 hk883 hk907 hk930 hk953 hk976 hk999 hk1013 hk1021 x3 S204 hE
                                                                      · refine j_sub [] rfl ?_
                                                                        exact hk976  S204 hE
                                                                    · skip
                                                                      refine j_case hE (fun e hE => ?_) (fun e33 hE => ?_)
                                                                      · refine j_tin (tgt := 978) C dL_law_32 (by rw [e]; decide) (by rw [e]; decide) (by rw [e]; rfl) rfl ?_
                                                                        refine j_aload_n C dL_law_978 1 rfl ?_
                                                                        refine j_aload_n C dL_law_979 0 rfl ?_
                                                                        refine j_iload_n C dL_law_980 3 rfl ?_
                                                                        refine j_iconst (v := 1) C dL_law_981 jc_ic_1 ?_
                                                                        refine j_iadd C dL_law_982 ?_
                                                                        refine j_sld C hX dL_law_983 hE (fun v206 hE => ?_)
                                                                        refine k_L_150_X11_count C dL_law_984 hE (Nat.le_of_ble_eq_true rfl) (Nat.le_of_ble_eq_true rfl) (Nat.le_of_ble_eq_true rfl) (fun v208 S207 hE => ?_)
                                                                        refine j_aload_n C dL_law_987 2 rfl ?_
                                                                        refine j_aload_n C dL_law_988 0 rfl ?_
                                                                        refine j_iload_n C dL_law_989 3 rfl ?_
                                                                        refine j_iconst (v := 1) C dL_law_990 jc_ic_1 ?_
                                                                        refine j_iadd C dL_law_991 ?_
                                                                        refine j_sld C hX dL_law_992 hE (fun v209 hE => ?_)
                                                                        refine k_L_153_X12_count C dL_law_993 hE (Nat.le_of_ble_eq_true rfl) (Nat.le_of_ble_eq_true rfl) (Nat.le_of_ble_eq_true rfl) (fun v211 S210 hE => ?_)
                                                                        refine j_icmp_eq (tgt := 1015) C dL_law_996 rfl hE (fun hE => ?_) (fun hE => ?_)
                                                                        · exact p_L_law_1015 C Q hX hg hk219 hk252 hk285 hk308 hk341 hk354 hk377 hk390 hk403 hk436 hk469 hk492 hk505 hk528 hk541 hk554 hk577 hk610 hk623 hk646 hk679 hk702 hk715 hk758 hk781 hk804 hk827 hk850 hk883 hk907 hk930 hk953 hk976 hk999 hk1013 hk1021 x3 S210 hE
                                                                        · refine j_sub [] rfl ?_
                                                                          exact hk999  S210 hE
                                                                      · skip
                                                                        refine j_case hE (fun e hE => ?_) (fun e34 hE => ?_)
                                                                        · refine j_tin (tgt := 1001) C dL_law_32 (by rw [e]; decide) (by rw [e]; decide) (by rw [e]; rfl) rfl ?_
                                                                          refine j_aload_n C dL_law_1001 1 rfl ?_
                                                                          refine k_L_154_X11_digest C dL_law_1002 hE (Nat.le_of_ble_eq_true rfl) (Nat.le_of_ble_eq_true rfl) (Nat.le_of_ble_eq_true rfl) (fun v213 S212 hE => ?_)
                                                                          refine j_aload_n C dL_law_1005 2 rfl ?_
                                                                          refine k_L_158_X12_digest C dL_law_1006 hE (Nat.le_of_ble_eq_true rfl) (Nat.le_of_ble_eq_true rfl) (Nat.le_of_ble_eq_true rfl) (fun v215 S214 hE => ?_)
                                                                          refine j_lcmp C dL_law_1009 ?_
                                                                          refine j_if_eq (tgt := 1015) C dL_law_1010 rfl hE (fun hE => ?_) (fun hE => ?_)
                                                                          · exact p_L_law_1015 C Q hX hg hk219 hk252 hk285 hk308 hk341 hk354 hk377 hk390 hk403 hk436 hk469 hk492 hk505 hk528 hk541 hk554 hk577 hk610 hk623 hk646 hk679 hk702 hk715 hk758 hk781 hk804 hk827 hk850 hk883 hk907 hk930 hk953 hk976 hk999 hk1013 hk1021 x3 S214 hE
                                                                          · refine j_sub [] rfl ?_
                                                                            exact hk1013  S214 hE
                                                                        · skip
                                                                          refine j_tout (tgt := 1015) C dL_law_32 (by have w0 := lv_neT (a := 0) e0 (by decide); have w1 := lv_neT (a := 1) e1 (by decide); have w2 := lv_neT (a := 2) e2 (by decide); have w3 := lv_neT (a := 3) e3 (by decide); have w4 := lv_neT (a := 4) e4 (by decide); have w5 := lv_neT (a := 5) e5 (by decide); have w6 := lv_neT (a := 6) e6 (by decide); have w7 := lv_neT (a := 7) e7 (by decide); have w8 := lv_neT (a := 8) e8 (by decide); have w9 := lv_neT (a := 9) e9 (by decide); have w10 := lv_neT (a := 10) e10 (by decide); have w11 := lv_neT (a := 11) e11 (by decide); have w12 := lv_neT (a := 12) e12 (by decide); have w13 := lv_neT (a := 13) e13 (by decide); have w14 := lv_neT (a := 14) e14 (by decide); have w15 := lv_neT (a := 15) e15 (by decide); have w16 := lv_neT (a := 16) e16 (by decide); have w17 := lv_neT (a := 17) e17 (by decide); have w18 := lv_neT (a := 18) e18 (by decide); have w19 := lv_neT (a := 19) e19 (by decide); have w20 := lv_neT (a := 20) e20 (by decide); have w21 := lv_neT (a := 21) e21 (by decide); have w22 := lv_neT (a := 22) e22 (by decide); have w23 := lv_neT (a := 23) e23 (by decide); have w24 := lv_neT (a := 24) e24 (by decide); have w25 := lv_neT (a := 25) e25 (by decide); have w26 := lv_neT (a := 26) e26 (by decide); have w27 := lv_neT (a := 27) e27 (by decide); have w28 := lv_neT (a := 28) e28 (by decide); have w29 := lv_neT (a := 29) e29 (by decide); have w30 := lv_neT (a := 30) e30 (by decide); have w31 := lv_neT (a := 31) e31 (by decide); have w32 := lv_neT (a := 32) e32 (by decide); have w33 := lv_neT (a := 33) e33 (by decide); have w34 := lv_neT (a := 34) e34 (by decide); omega) rfl ?_
                                                                          exact p_L_law_1015 C Q hX hg hk219 hk252 hk285 hk308 hk341 hk354 hk377 hk390 hk403 hk436 hk469 hk492 hk505 hk528 hk541 hk554 hk577 hk610 hk623 hk646 hk679 hk702 hk715 hk758 hk781 hk804 hk827 hk850 hk883 hk907 hk930 hk953 hk976 hk999 hk1013 hk1021 x3 S hE
theorem q_L_law_18 {X : jX} {D : va_G} {ad : Nat → Nat} {cy : Nat → ClassId} (C : jC X (jMain D ad cy) RL cL_law ret 4 12 424) {z : Unit} (Q : jLaw X (jMain D ad cy)) {L : Nat} {sc : Nat → Int32} (hX : jScr X (jMain D ad cy) (ad 200) L sc) {k219 : jS → Option (Unit)} (hk219 : ∀  (S : jS), k219  S = some z → jJ X (jMain D ad cy) 219 [] [] S) {k252 : jS → Option (Unit)} (hk252 : ∀  (S : jS), k252  S = some z → jJ X (jMain D ad cy) 252 [] [] S) {k285 : jS → Option (Unit)} (hk285 : ∀  (S : jS), k285  S = some z → jJ X (jMain D ad cy) 285 [] [] S) {k308 : jS → Option (Unit)} (hk308 : ∀  (S : jS), k308  S = some z → jJ X (jMain D ad cy) 308 [] [] S) {k341 : jS → Option (Unit)} (hk341 : ∀  (S : jS), k341  S = some z → jJ X (jMain D ad cy) 341 [] [] S) {k354 : jS → Option (Unit)} (hk354 : ∀  (S : jS), k354  S = some z → jJ X (jMain D ad cy) 354 [] [] S) {k377 : jS → Option (Unit)} (hk377 : ∀  (S : jS), k377  S = some z → jJ X (jMain D ad cy) 377 [] [] S) {k390 : jS → Option (Unit)} (hk390 : ∀  (S : jS), k390  S = some z → jJ X (jMain D ad cy) 390 [] [] S) {k403 : jS → Option (Unit)} (hk403 : ∀  (S : jS), k403  S = some z → jJ X (jMain D ad cy) 403 [] [] S) {k436 : jS → Option (Unit)} (hk436 : ∀  (S : jS), k436  S = some z → jJ X (jMain D ad cy) 436 [] [] S) {k469 : jS → Option (Unit)} (hk469 : ∀  (S : jS), k469  S = some z → jJ X (jMain D ad cy) 469 [] [] S) {k492 : jS → Option (Unit)} (hk492 : ∀  (S : jS), k492  S = some z → jJ X (jMain D ad cy) 492 [] [] S) {k505 : jS → Option (Unit)} (hk505 : ∀  (S : jS), k505  S = some z → jJ X (jMain D ad cy) 505 [] [] S) {k528 : jS → Option (Unit)} (hk528 : ∀  (S : jS), k528  S = some z → jJ X (jMain D ad cy) 528 [] [] S) {k541 : jS → Option (Unit)} (hk541 : ∀  (S : jS), k541  S = some z → jJ X (jMain D ad cy) 541 [] [] S) {k554 : jS → Option (Unit)} (hk554 : ∀  (S : jS), k554  S = some z → jJ X (jMain D ad cy) 554 [] [] S) {k577 : jS → Option (Unit)} (hk577 : ∀  (S : jS), k577  S = some z → jJ X (jMain D ad cy) 577 [] [] S) {k610 : jS → Option (Unit)} (hk610 : ∀  (S : jS), k610  S = some z → jJ X (jMain D ad cy) 610 [] [] S) {k623 : jS → Option (Unit)} (hk623 : ∀  (S : jS), k623  S = some z → jJ X (jMain D ad cy) 623 [] [] S) {k646 : jS → Option (Unit)} (hk646 : ∀  (S : jS), k646  S = some z → jJ X (jMain D ad cy) 646 [] [] S) {k679 : jS → Option (Unit)} (hk679 : ∀  (S : jS), k679  S = some z → jJ X (jMain D ad cy) 679 [] [] S) {k702 : jS → Option (Unit)} (hk702 : ∀  (S : jS), k702  S = some z → jJ X (jMain D ad cy) 702 [] [] S) {k715 : jS → Option (Unit)} (hk715 : ∀  (S : jS), k715  S = some z → jJ X (jMain D ad cy) 715 [] [] S) {k758 : jS → Option (Unit)} (hk758 : ∀  (S : jS), k758  S = some z → jJ X (jMain D ad cy) 758 [] [] S) {k781 : jS → Option (Unit)} (hk781 : ∀  (S : jS), k781  S = some z → jJ X (jMain D ad cy) 781 [] [] S) {k804 : jS → Option (Unit)} (hk804 : ∀  (S : jS), k804  S = some z → jJ X (jMain D ad cy) 804 [] [] S) {k827 : jS → Option (Unit)} (hk827 : ∀  (S : jS), k827  S = some z → jJ X (jMain D ad cy) 827 [] [] S) {k850 : jS → Option (Unit)} (hk850 : ∀  (S : jS), k850  S = some z → jJ X (jMain D ad cy) 850 [] [] S) {k883 : jS → Option (Unit)} (hk883 : ∀  (S : jS), k883  S = some z → jJ X (jMain D ad cy) 883 [] [] S) {k907 : jS → Option (Unit)} (hk907 : ∀  (S : jS), k907  S = some z → jJ X (jMain D ad cy) 907 [] [] S) {k930 : jS → Option (Unit)} (hk930 : ∀  (S : jS), k930  S = some z → jJ X (jMain D ad cy) 930 [] [] S) {k953 : jS → Option (Unit)} (hk953 : ∀  (S : jS), k953  S = some z → jJ X (jMain D ad cy) 953 [] [] S) {k976 : jS → Option (Unit)} (hk976 : ∀  (S : jS), k976  S = some z → jJ X (jMain D ad cy) 976 [] [] S) {k999 : jS → Option (Unit)} (hk999 : ∀  (S : jS), k999  S = some z → jJ X (jMain D ad cy) 999 [] [] S) {k1013 : jS → Option (Unit)} (hk1013 : ∀  (S : jS), k1013  S = some z → jJ X (jMain D ad cy) 1013 [] [] S) {k1021 : jS → Option (Unit)} (hk1021 : ∀  (S : jS), k1021  S = some z → jJ X (jMain D ad cy) 1021 [] [] S) (x3 : Int32) (S : jS) (hE : lp_L_law_18 L sc k219 k252 k285 k308 k341 k354 k377 k390 k403 k436 k469 k492 k505 k528 k541 k554 k577 k610 k623 k646 k679 k702 k715 k758 k781 k804 k827 k850 k883 k907 k930 k953 k976 k999 k1013 k1021 x3 S = some z) : jJ X (jMain D ad cy) 18 [(0, .ref (ad 200)), (1, .ref (ad 0)), (2, .ref (ad 41)), (3, .int x3)] [] S :=
  jloop_P (α := Int32 × jS) (B := (fun g q => f_L_law_18 L sc (fun x3 S => g (x3, S)) k219 k252 k285 k308 k341 k354 k377 k390 k403 k436 k469 k492 k505 k528 k541 k554 k577 k610 k623 k646 k679 k702 k715 k758 k781 k804 k827 k850 k883 k907 k930 k953 k976 k999 k1013 k1021 q.1 q.2)) (P := fun q => jJ X (jMain D ad cy) 18 [(0, .ref (ad 200)), (1, .ref (ad 0)), (2, .ref (ad 41)), (3, .int q.1)] [] q.2) (fun g q hg h => p_L_law_18 C Q hX (g := fun x3 S => g (x3, S)) (fun x3 S h => hg (x3, S) h) hk219 hk252 hk285 hk308 hk341 hk354 hk377 hk390 hk403 hk436 hk469 hk492 hk505 hk528 hk541 hk554 hk577 hk610 hk623 hk646 hk679 hk702 hk715 hk758 hk781 hk804 hk827 hk850 hk883 hk907 hk930 hk953 hk976 hk999 hk1013 hk1021 q.1 q.2 h) jN (x3, S) hE
set_option maxRecDepth 100000 in
theorem p_L_law_219 {X : jX} {D : va_G} {ad : Nat → Nat} {cy : Nat → ClassId} (C : jC X (jMain D ad cy) RL cL_law ret 4 12 424) {z : Unit} (Q : jLaw X (jMain D ad cy)) {L : Nat} {sc : Nat → Int32} (hX : jScr X (jMain D ad cy) (ad 200) L sc)   (S : jS) (hE : f_L_law_219 L sc   S = some z) : jJ X (jMain D ad cy) 219 [] [] S := by
  unfold f_L_law_219 at hE
  refine j_iconst (v := 0) C dL_law_219 jc_ic_0 ?_
  cases hE
set_option maxRecDepth 100000 in
theorem p_L_law_252 {X : jX} {D : va_G} {ad : Nat → Nat} {cy : Nat → ClassId} (C : jC X (jMain D ad cy) RL cL_law ret 4 12 424) {z : Unit} (Q : jLaw X (jMain D ad cy)) {L : Nat} {sc : Nat → Int32} (hX : jScr X (jMain D ad cy) (ad 200) L sc)   (S : jS) (hE : f_L_law_252 L sc   S = some z) : jJ X (jMain D ad cy) 252 [] [] S := by
  unfold f_L_law_252 at hE
  refine j_iconst (v := 0) C dL_law_252 jc_ic_0 ?_
  cases hE
set_option maxRecDepth 100000 in
theorem p_L_law_285 {X : jX} {D : va_G} {ad : Nat → Nat} {cy : Nat → ClassId} (C : jC X (jMain D ad cy) RL cL_law ret 4 12 424) {z : Unit} (Q : jLaw X (jMain D ad cy)) {L : Nat} {sc : Nat → Int32} (hX : jScr X (jMain D ad cy) (ad 200) L sc)   (S : jS) (hE : f_L_law_285 L sc   S = some z) : jJ X (jMain D ad cy) 285 [] [] S := by
  unfold f_L_law_285 at hE
  refine j_iconst (v := 0) C dL_law_285 jc_ic_0 ?_
  cases hE
set_option maxRecDepth 100000 in
theorem p_L_law_308 {X : jX} {D : va_G} {ad : Nat → Nat} {cy : Nat → ClassId} (C : jC X (jMain D ad cy) RL cL_law ret 4 12 424) {z : Unit} (Q : jLaw X (jMain D ad cy)) {L : Nat} {sc : Nat → Int32} (hX : jScr X (jMain D ad cy) (ad 200) L sc)   (S : jS) (hE : f_L_law_308 L sc   S = some z) : jJ X (jMain D ad cy) 308 [] [] S := by
  unfold f_L_law_308 at hE
  refine j_iconst (v := 0) C dL_law_308 jc_ic_0 ?_
  cases hE
set_option maxRecDepth 100000 in
theorem p_L_law_341 {X : jX} {D : va_G} {ad : Nat → Nat} {cy : Nat → ClassId} (C : jC X (jMain D ad cy) RL cL_law ret 4 12 424) {z : Unit} (Q : jLaw X (jMain D ad cy)) {L : Nat} {sc : Nat → Int32} (hX : jScr X (jMain D ad cy) (ad 200) L sc)   (S : jS) (hE : f_L_law_341 L sc   S = some z) : jJ X (jMain D ad cy) 341 [] [] S := by
  unfold f_L_law_341 at hE
  refine j_iconst (v := 0) C dL_law_341 jc_ic_0 ?_
  cases hE
set_option maxRecDepth 100000 in
theorem p_L_law_354 {X : jX} {D : va_G} {ad : Nat → Nat} {cy : Nat → ClassId} (C : jC X (jMain D ad cy) RL cL_law ret 4 12 424) {z : Unit} (Q : jLaw X (jMain D ad cy)) {L : Nat} {sc : Nat → Int32} (hX : jScr X (jMain D ad cy) (ad 200) L sc)   (S : jS) (hE : f_L_law_354 L sc   S = some z) : jJ X (jMain D ad cy) 354 [] [] S := by
  unfold f_L_law_354 at hE
  refine j_iconst (v := 0) C dL_law_354 jc_ic_0 ?_
  cases hE
set_option maxRecDepth 100000 in
theorem p_L_law_377 {X : jX} {D : va_G} {ad : Nat → Nat} {cy : Nat → ClassId} (C : jC X (jMain D ad cy) RL cL_law ret 4 12 424) {z : Unit} (Q : jLaw X (jMain D ad cy)) {L : Nat} {sc : Nat → Int32} (hX : jScr X (jMain D ad cy) (ad 200) L sc)   (S : jS) (hE : f_L_law_377 L sc   S = some z) : jJ X (jMain D ad cy) 377 [] [] S := by
  unfold f_L_law_377 at hE
  refine j_iconst (v := 0) C dL_law_377 jc_ic_0 ?_
  cases hE
set_option maxRecDepth 100000 in
theorem p_L_law_390 {X : jX} {D : va_G} {ad : Nat → Nat} {cy : Nat → ClassId} (C : jC X (jMain D ad cy) RL cL_law ret 4 12 424) {z : Unit} (Q : jLaw X (jMain D ad cy)) {L : Nat} {sc : Nat → Int32} (hX : jScr X (jMain D ad cy) (ad 200) L sc)   (S : jS) (hE : f_L_law_390 L sc   S = some z) : jJ X (jMain D ad cy) 390 [] [] S := by
  unfold f_L_law_390 at hE
  refine j_iconst (v := 0) C dL_law_390 jc_ic_0 ?_
  cases hE
set_option maxRecDepth 100000 in
theorem p_L_law_403 {X : jX} {D : va_G} {ad : Nat → Nat} {cy : Nat → ClassId} (C : jC X (jMain D ad cy) RL cL_law ret 4 12 424) {z : Unit} (Q : jLaw X (jMain D ad cy)) {L : Nat} {sc : Nat → Int32} (hX : jScr X (jMain D ad cy) (ad 200) L sc)   (S : jS) (hE : f_L_law_403 L sc   S = some z) : jJ X (jMain D ad cy) 403 [] [] S := by
  unfold f_L_law_403 at hE
  refine j_iconst (v := 0) C dL_law_403 jc_ic_0 ?_
  cases hE
set_option maxRecDepth 100000 in
theorem p_L_law_436 {X : jX} {D : va_G} {ad : Nat → Nat} {cy : Nat → ClassId} (C : jC X (jMain D ad cy) RL cL_law ret 4 12 424) {z : Unit} (Q : jLaw X (jMain D ad cy)) {L : Nat} {sc : Nat → Int32} (hX : jScr X (jMain D ad cy) (ad 200) L sc)   (S : jS) (hE : f_L_law_436 L sc   S = some z) : jJ X (jMain D ad cy) 436 [] [] S := by
  unfold f_L_law_436 at hE
  refine j_iconst (v := 0) C dL_law_436 jc_ic_0 ?_
  cases hE
set_option maxRecDepth 100000 in
theorem p_L_law_469 {X : jX} {D : va_G} {ad : Nat → Nat} {cy : Nat → ClassId} (C : jC X (jMain D ad cy) RL cL_law ret 4 12 424) {z : Unit} (Q : jLaw X (jMain D ad cy)) {L : Nat} {sc : Nat → Int32} (hX : jScr X (jMain D ad cy) (ad 200) L sc)   (S : jS) (hE : f_L_law_469 L sc   S = some z) : jJ X (jMain D ad cy) 469 [] [] S := by
  unfold f_L_law_469 at hE
  refine j_iconst (v := 0) C dL_law_469 jc_ic_0 ?_
  cases hE
set_option maxRecDepth 100000 in
theorem p_L_law_492 {X : jX} {D : va_G} {ad : Nat → Nat} {cy : Nat → ClassId} (C : jC X (jMain D ad cy) RL cL_law ret 4 12 424) {z : Unit} (Q : jLaw X (jMain D ad cy)) {L : Nat} {sc : Nat → Int32} (hX : jScr X (jMain D ad cy) (ad 200) L sc)   (S : jS) (hE : f_L_law_492 L sc   S = some z) : jJ X (jMain D ad cy) 492 [] [] S := by
  unfold f_L_law_492 at hE
  refine j_iconst (v := 0) C dL_law_492 jc_ic_0 ?_
  cases hE
set_option maxRecDepth 100000 in
theorem p_L_law_505 {X : jX} {D : va_G} {ad : Nat → Nat} {cy : Nat → ClassId} (C : jC X (jMain D ad cy) RL cL_law ret 4 12 424) {z : Unit} (Q : jLaw X (jMain D ad cy)) {L : Nat} {sc : Nat → Int32} (hX : jScr X (jMain D ad cy) (ad 200) L sc)   (S : jS) (hE : f_L_law_505 L sc   S = some z) : jJ X (jMain D ad cy) 505 [] [] S := by
  unfold f_L_law_505 at hE
  refine j_iconst (v := 0) C dL_law_505 jc_ic_0 ?_
  cases hE
set_option maxRecDepth 100000 in
theorem p_L_law_528 {X : jX} {D : va_G} {ad : Nat → Nat} {cy : Nat → ClassId} (C : jC X (jMain D ad cy) RL cL_law ret 4 12 424) {z : Unit} (Q : jLaw X (jMain D ad cy)) {L : Nat} {sc : Nat → Int32} (hX : jScr X (jMain D ad cy) (ad 200) L sc)   (S : jS) (hE : f_L_law_528 L sc   S = some z) : jJ X (jMain D ad cy) 528 [] [] S := by
  unfold f_L_law_528 at hE
  refine j_iconst (v := 0) C dL_law_528 jc_ic_0 ?_
  cases hE
set_option maxRecDepth 100000 in
theorem p_L_law_541 {X : jX} {D : va_G} {ad : Nat → Nat} {cy : Nat → ClassId} (C : jC X (jMain D ad cy) RL cL_law ret 4 12 424) {z : Unit} (Q : jLaw X (jMain D ad cy)) {L : Nat} {sc : Nat → Int32} (hX : jScr X (jMain D ad cy) (ad 200) L sc)   (S : jS) (hE : f_L_law_541 L sc   S = some z) : jJ X (jMain D ad cy) 541 [] [] S := by
  unfold f_L_law_541 at hE
  refine j_iconst (v := 0) C dL_law_541 jc_ic_0 ?_
  cases hE
set_option maxRecDepth 100000 in
theorem p_L_law_554 {X : jX} {D : va_G} {ad : Nat → Nat} {cy : Nat → ClassId} (C : jC X (jMain D ad cy) RL cL_law ret 4 12 424) {z : Unit} (Q : jLaw X (jMain D ad cy)) {L : Nat} {sc : Nat → Int32} (hX : jScr X (jMain D ad cy) (ad 200) L sc)   (S : jS) (hE : f_L_law_554 L sc   S = some z) : jJ X (jMain D ad cy) 554 [] [] S := by
  unfold f_L_law_554 at hE
  refine j_iconst (v := 0) C dL_law_554 jc_ic_0 ?_
  cases hE
set_option maxRecDepth 100000 in
theorem p_L_law_577 {X : jX} {D : va_G} {ad : Nat → Nat} {cy : Nat → ClassId} (C : jC X (jMain D ad cy) RL cL_law ret 4 12 424) {z : Unit} (Q : jLaw X (jMain D ad cy)) {L : Nat} {sc : Nat → Int32} (hX : jScr X (jMain D ad cy) (ad 200) L sc)   (S : jS) (hE : f_L_law_577 L sc   S = some z) : jJ X (jMain D ad cy) 577 [] [] S := by
  unfold f_L_law_577 at hE
  refine j_iconst (v := 0) C dL_law_577 jc_ic_0 ?_
  cases hE
set_option maxRecDepth 100000 in
theorem p_L_law_610 {X : jX} {D : va_G} {ad : Nat → Nat} {cy : Nat → ClassId} (C : jC X (jMain D ad cy) RL cL_law ret 4 12 424) {z : Unit} (Q : jLaw X (jMain D ad cy)) {L : Nat} {sc : Nat → Int32} (hX : jScr X (jMain D ad cy) (ad 200) L sc)   (S : jS) (hE : f_L_law_610 L sc   S = some z) : jJ X (jMain D ad cy) 610 [] [] S := by
  unfold f_L_law_610 at hE
  refine j_iconst (v := 0) C dL_law_610 jc_ic_0 ?_
  cases hE
set_option maxRecDepth 100000 in
theorem p_L_law_623 {X : jX} {D : va_G} {ad : Nat → Nat} {cy : Nat → ClassId} (C : jC X (jMain D ad cy) RL cL_law ret 4 12 424) {z : Unit} (Q : jLaw X (jMain D ad cy)) {L : Nat} {sc : Nat → Int32} (hX : jScr X (jMain D ad cy) (ad 200) L sc)   (S : jS) (hE : f_L_law_623 L sc   S = some z) : jJ X (jMain D ad cy) 623 [] [] S := by
  unfold f_L_law_623 at hE
  refine j_iconst (v := 0) C dL_law_623 jc_ic_0 ?_
  cases hE
set_option maxRecDepth 100000 in
theorem p_L_law_646 {X : jX} {D : va_G} {ad : Nat → Nat} {cy : Nat → ClassId} (C : jC X (jMain D ad cy) RL cL_law ret 4 12 424) {z : Unit} (Q : jLaw X (jMain D ad cy)) {L : Nat} {sc : Nat → Int32} (hX : jScr X (jMain D ad cy) (ad 200) L sc)   (S : jS) (hE : f_L_law_646 L sc   S = some z) : jJ X (jMain D ad cy) 646 [] [] S := by
  unfold f_L_law_646 at hE
  refine j_iconst (v := 0) C dL_law_646 jc_ic_0 ?_
  cases hE
set_option maxRecDepth 100000 in
theorem p_L_law_679 {X : jX} {D : va_G} {ad : Nat → Nat} {cy : Nat → ClassId} (C : jC X (jMain D ad cy) RL cL_law ret 4 12 424) {z : Unit} (Q : jLaw X (jMain D ad cy)) {L : Nat} {sc : Nat → Int32} (hX : jScr X (jMain D ad cy) (ad 200) L sc)   (S : jS) (hE : f_L_law_679 L sc   S = some z) : jJ X (jMain D ad cy) 679 [] [] S := by
  unfold f_L_law_679 at hE
  refine j_iconst (v := 0) C dL_law_679 jc_ic_0 ?_
  cases hE
set_option maxRecDepth 100000 in
theorem p_L_law_702 {X : jX} {D : va_G} {ad : Nat → Nat} {cy : Nat → ClassId} (C : jC X (jMain D ad cy) RL cL_law ret 4 12 424) {z : Unit} (Q : jLaw X (jMain D ad cy)) {L : Nat} {sc : Nat → Int32} (hX : jScr X (jMain D ad cy) (ad 200) L sc)   (S : jS) (hE : f_L_law_702 L sc   S = some z) : jJ X (jMain D ad cy) 702 [] [] S := by
  unfold f_L_law_702 at hE
  refine j_iconst (v := 0) C dL_law_702 jc_ic_0 ?_
  cases hE
set_option maxRecDepth 100000 in
theorem p_L_law_715 {X : jX} {D : va_G} {ad : Nat → Nat} {cy : Nat → ClassId} (C : jC X (jMain D ad cy) RL cL_law ret 4 12 424) {z : Unit} (Q : jLaw X (jMain D ad cy)) {L : Nat} {sc : Nat → Int32} (hX : jScr X (jMain D ad cy) (ad 200) L sc)   (S : jS) (hE : f_L_law_715 L sc   S = some z) : jJ X (jMain D ad cy) 715 [] [] S := by
  unfold f_L_law_715 at hE
  refine j_iconst (v := 0) C dL_law_715 jc_ic_0 ?_
  cases hE
set_option maxRecDepth 100000 in
theorem p_L_law_758 {X : jX} {D : va_G} {ad : Nat → Nat} {cy : Nat → ClassId} (C : jC X (jMain D ad cy) RL cL_law ret 4 12 424) {z : Unit} (Q : jLaw X (jMain D ad cy)) {L : Nat} {sc : Nat → Int32} (hX : jScr X (jMain D ad cy) (ad 200) L sc)   (S : jS) (hE : f_L_law_758 L sc   S = some z) : jJ X (jMain D ad cy) 758 [] [] S := by
  unfold f_L_law_758 at hE
  refine j_iconst (v := 0) C dL_law_758 jc_ic_0 ?_
  cases hE
set_option maxRecDepth 100000 in
theorem p_L_law_781 {X : jX} {D : va_G} {ad : Nat → Nat} {cy : Nat → ClassId} (C : jC X (jMain D ad cy) RL cL_law ret 4 12 424) {z : Unit} (Q : jLaw X (jMain D ad cy)) {L : Nat} {sc : Nat → Int32} (hX : jScr X (jMain D ad cy) (ad 200) L sc)   (S : jS) (hE : f_L_law_781 L sc   S = some z) : jJ X (jMain D ad cy) 781 [] [] S := by
  unfold f_L_law_781 at hE
  refine j_iconst (v := 0) C dL_law_781 jc_ic_0 ?_
  cases hE
set_option maxRecDepth 100000 in
theorem p_L_law_804 {X : jX} {D : va_G} {ad : Nat → Nat} {cy : Nat → ClassId} (C : jC X (jMain D ad cy) RL cL_law ret 4 12 424) {z : Unit} (Q : jLaw X (jMain D ad cy)) {L : Nat} {sc : Nat → Int32} (hX : jScr X (jMain D ad cy) (ad 200) L sc)   (S : jS) (hE : f_L_law_804 L sc   S = some z) : jJ X (jMain D ad cy) 804 [] [] S := by
  unfold f_L_law_804 at hE
  refine j_iconst (v := 0) C dL_law_804 jc_ic_0 ?_
  cases hE
set_option maxRecDepth 100000 in
theorem p_L_law_827 {X : jX} {D : va_G} {ad : Nat → Nat} {cy : Nat → ClassId} (C : jC X (jMain D ad cy) RL cL_law ret 4 12 424) {z : Unit} (Q : jLaw X (jMain D ad cy)) {L : Nat} {sc : Nat → Int32} (hX : jScr X (jMain D ad cy) (ad 200) L sc)   (S : jS) (hE : f_L_law_827 L sc   S = some z) : jJ X (jMain D ad cy) 827 [] [] S := by
  unfold f_L_law_827 at hE
  refine j_iconst (v := 0) C dL_law_827 jc_ic_0 ?_
  cases hE
set_option maxRecDepth 100000 in
theorem p_L_law_850 {X : jX} {D : va_G} {ad : Nat → Nat} {cy : Nat → ClassId} (C : jC X (jMain D ad cy) RL cL_law ret 4 12 424) {z : Unit} (Q : jLaw X (jMain D ad cy)) {L : Nat} {sc : Nat → Int32} (hX : jScr X (jMain D ad cy) (ad 200) L sc)   (S : jS) (hE : f_L_law_850 L sc   S = some z) : jJ X (jMain D ad cy) 850 [] [] S := by
  unfold f_L_law_850 at hE
  refine j_iconst (v := 0) C dL_law_850 jc_ic_0 ?_
  cases hE
set_option maxRecDepth 100000 in
theorem p_L_law_883 {X : jX} {D : va_G} {ad : Nat → Nat} {cy : Nat → ClassId} (C : jC X (jMain D ad cy) RL cL_law ret 4 12 424) {z : Unit} (Q : jLaw X (jMain D ad cy)) {L : Nat} {sc : Nat → Int32} (hX : jScr X (jMain D ad cy) (ad 200) L sc)   (S : jS) (hE : f_L_law_883 L sc   S = some z) : jJ X (jMain D ad cy) 883 [] [] S := by
  unfold f_L_law_883 at hE
  refine j_iconst (v := 0) C dL_law_883 jc_ic_0 ?_
  cases hE
set_option maxRecDepth 100000 in
theorem p_L_law_907 {X : jX} {D : va_G} {ad : Nat → Nat} {cy : Nat → ClassId} (C : jC X (jMain D ad cy) RL cL_law ret 4 12 424) {z : Unit} (Q : jLaw X (jMain D ad cy)) {L : Nat} {sc : Nat → Int32} (hX : jScr X (jMain D ad cy) (ad 200) L sc)   (S : jS) (hE : f_L_law_907 L sc   S = some z) : jJ X (jMain D ad cy) 907 [] [] S := by
  unfold f_L_law_907 at hE
  refine j_iconst (v := 0) C dL_law_907 jc_ic_0 ?_
  cases hE
set_option maxRecDepth 100000 in
theorem p_L_law_930 {X : jX} {D : va_G} {ad : Nat → Nat} {cy : Nat → ClassId} (C : jC X (jMain D ad cy) RL cL_law ret 4 12 424) {z : Unit} (Q : jLaw X (jMain D ad cy)) {L : Nat} {sc : Nat → Int32} (hX : jScr X (jMain D ad cy) (ad 200) L sc)   (S : jS) (hE : f_L_law_930 L sc   S = some z) : jJ X (jMain D ad cy) 930 [] [] S := by
  unfold f_L_law_930 at hE
  refine j_iconst (v := 0) C dL_law_930 jc_ic_0 ?_
  cases hE
set_option maxRecDepth 100000 in
theorem p_L_law_953 {X : jX} {D : va_G} {ad : Nat → Nat} {cy : Nat → ClassId} (C : jC X (jMain D ad cy) RL cL_law ret 4 12 424) {z : Unit} (Q : jLaw X (jMain D ad cy)) {L : Nat} {sc : Nat → Int32} (hX : jScr X (jMain D ad cy) (ad 200) L sc)   (S : jS) (hE : f_L_law_953 L sc   S = some z) : jJ X (jMain D ad cy) 953 [] [] S := by
  unfold f_L_law_953 at hE
  refine j_iconst (v := 0) C dL_law_953 jc_ic_0 ?_
  cases hE
set_option maxRecDepth 100000 in
theorem p_L_law_976 {X : jX} {D : va_G} {ad : Nat → Nat} {cy : Nat → ClassId} (C : jC X (jMain D ad cy) RL cL_law ret 4 12 424) {z : Unit} (Q : jLaw X (jMain D ad cy)) {L : Nat} {sc : Nat → Int32} (hX : jScr X (jMain D ad cy) (ad 200) L sc)   (S : jS) (hE : f_L_law_976 L sc   S = some z) : jJ X (jMain D ad cy) 976 [] [] S := by
  unfold f_L_law_976 at hE
  refine j_iconst (v := 0) C dL_law_976 jc_ic_0 ?_
  cases hE
set_option maxRecDepth 100000 in
theorem p_L_law_999 {X : jX} {D : va_G} {ad : Nat → Nat} {cy : Nat → ClassId} (C : jC X (jMain D ad cy) RL cL_law ret 4 12 424) {z : Unit} (Q : jLaw X (jMain D ad cy)) {L : Nat} {sc : Nat → Int32} (hX : jScr X (jMain D ad cy) (ad 200) L sc)   (S : jS) (hE : f_L_law_999 L sc   S = some z) : jJ X (jMain D ad cy) 999 [] [] S := by
  unfold f_L_law_999 at hE
  refine j_iconst (v := 0) C dL_law_999 jc_ic_0 ?_
  cases hE
set_option maxRecDepth 100000 in
theorem p_L_law_1013 {X : jX} {D : va_G} {ad : Nat → Nat} {cy : Nat → ClassId} (C : jC X (jMain D ad cy) RL cL_law ret 4 12 424) {z : Unit} (Q : jLaw X (jMain D ad cy)) {L : Nat} {sc : Nat → Int32} (hX : jScr X (jMain D ad cy) (ad 200) L sc)   (S : jS) (hE : f_L_law_1013 L sc   S = some z) : jJ X (jMain D ad cy) 1013 [] [] S := by
  unfold f_L_law_1013 at hE
  refine j_iconst (v := 0) C dL_law_1013 jc_ic_0 ?_
  cases hE
set_option maxRecDepth 100000 in
theorem p_L_law_1021 {X : jX} {D : va_G} {ad : Nat → Nat} {cy : Nat → ClassId} (C : jC X (jMain D ad cy) RL cL_law ret 4 12 424) {z : Unit} (Q : jLaw X (jMain D ad cy)) {L : Nat} {sc : Nat → Int32} (hX : jScr X (jMain D ad cy) (ad 200) L sc)   (S : jS) (hE : f_L_law_1021 L sc   S = some z) : jJ X (jMain D ad cy) 1021 [] [] S := by
  unfold f_L_law_1021 at hE
  refine j_iconst (v := 1) C dL_law_1021 jc_ic_1 ?_
  exact j_lawret C Q dL_law_1022
set_option maxRecDepth 100000 in
theorem p_L_law_e {X : jX} {D : va_G} {ad : Nat → Nat} {cy : Nat → ClassId} (C : jC X (jMain D ad cy) RL cL_law ret 4 12 424) {z : Unit} (Q : jLaw X (jMain D ad cy)) {L : Nat} {sc : Nat → Int32} (hX : jScr X (jMain D ad cy) (ad 200) L sc)   (S : jS) (hE : f_L_law_e L sc   S = some z) : jJ X (jMain D ad cy) 16 [(0, .ref (ad 200)), (1, .ref (ad 0)), (2, .ref (ad 41))] [] S := by
  unfold f_L_law_e at hE
  refine j_iconst (v := 0) C dL_law_16 jc_ic_0 ?_
  refine j_istore_n (i := 3) (lv' := [(3, .int 0), (0, .ref (ad 200)), (1, .ref (ad 0)), (2, .ref (ad 41))]) C dL_law_17 rfl (by decide) rfl ?_
  refine j_sub [1, 2, 3, 0] rfl ?_
  exact q_L_law_18 C Q hX (p_L_law_219 C Q hX ) (p_L_law_252 C Q hX ) (p_L_law_285 C Q hX ) (p_L_law_308 C Q hX ) (p_L_law_341 C Q hX ) (p_L_law_354 C Q hX ) (p_L_law_377 C Q hX ) (p_L_law_390 C Q hX ) (p_L_law_403 C Q hX ) (p_L_law_436 C Q hX ) (p_L_law_469 C Q hX ) (p_L_law_492 C Q hX ) (p_L_law_505 C Q hX ) (p_L_law_528 C Q hX ) (p_L_law_541 C Q hX ) (p_L_law_554 C Q hX ) (p_L_law_577 C Q hX ) (p_L_law_610 C Q hX ) (p_L_law_623 C Q hX ) (p_L_law_646 C Q hX ) (p_L_law_679 C Q hX ) (p_L_law_702 C Q hX ) (p_L_law_715 C Q hX ) (p_L_law_758 C Q hX ) (p_L_law_781 C Q hX ) (p_L_law_804 C Q hX ) (p_L_law_827 C Q hX ) (p_L_law_850 C Q hX ) (p_L_law_883 C Q hX ) (p_L_law_907 C Q hX ) (p_L_law_930 C Q hX ) (p_L_law_953 C Q hX ) (p_L_law_976 C Q hX ) (p_L_law_999 C Q hX ) (p_L_law_1013 C Q hX ) (p_L_law_1021 C Q hX ) 0 S hE
