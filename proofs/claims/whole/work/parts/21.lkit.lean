/-! ===== constructors: the world is a list of cells, new cells come behind it ===== -/
def lV (U : State) : Prop := va_Nw (.methodLinkNest RX11 36 yX7_init "OddFridays") U ∧ va_Nw (.methodLinkNest RX11 43 yX10_init "OddFridays") U ∧ va_AO "OddFridays$Plain" U ∧ va_AO "OddFridays$State" U ∧ va_Nw (.castable RX0 "OddFridays$Plain") U ∧ va_Nw (.castable RX6 "OddFridays$Plain") U ∧ va_Nw (.castable RX9 "OddFridays$Plain") U ∧ va_Nw (.castable RX8 "OddFridays$Plain") U ∧ va_Nw (.castable RX1 "OddFridays$Plain") U
theorem lV.warm {s U : State} (hW : s.WarmedH U.vm) (h : lV s) : lV U := ⟨va_Nw.warmM hW h.1, va_Nw.warmM hW h.2.1, va_AO.moved hW.alike h.2.2.1, va_AO.moved hW.alike h.2.2.2.1, va_Nw.warmC hW h.2.2.2.2.1, va_Nw.warmC hW h.2.2.2.2.2.1, va_Nw.warmC hW h.2.2.2.2.2.2.1, va_Nw.warmC hW h.2.2.2.2.2.2.2.1, va_Nw.warmC hW h.2.2.2.2.2.2.2.2⟩
theorem lV.same {s U : State} (h : s.vm = U.vm) (q : lV s) : lV U := ⟨va_Nw.same rfl h q.1, va_Nw.same rfl h q.2.1, va_AO.moved (by rw [h]; exact Vm.Alike.refl _) q.2.2.1, va_AO.moved (by rw [h]; exact Vm.Alike.refl _) q.2.2.2.1, va_Nw.same rfl h q.2.2.2.2.1, va_Nw.same rfl h q.2.2.2.2.2.1, va_Nw.same rfl h q.2.2.2.2.2.2.1, va_Nw.same rfl h q.2.2.2.2.2.2.2.1, va_Nw.same rfl h q.2.2.2.2.2.2.2.2⟩
def jL (X : jX) (D : va_G) (A : Nat → Prop) (k n pc : Nat) (lv : List (Nat × Value)) (st : List Value) (ws : va_W) : Prop :=
  ∀ (ls : Array Slot) (H : Heap) (locs : List Loc), lv_has ls (xL X) lv → va_P D vwCl ws H → va_D A ws → va_S A (xs X).heap H locs → W (xp X) (xl X) (xe X) (xR X) (xs X) (xm X) (xa X) (xb X) (xh X) (xc X) H locs k n (xQ X) (F0 (xm X) pc ls st)
def lC (X : jX) (D : va_G) (cy : Nat → ClassId) (A : Nat → Prop) (own : String) (cc : ByteArray) (nL fr lo kc ns : Nat) : Prop :=
  (xp X).tables.exec = Jvm.exec ∧ (xc X).code = cc ∧ (xc X).maxLocals = nL ∧ (xs X).vm.findClass own = some (xm X).cls ∧ (∀ w ∈ jT, w.before (xa X) (xs X) = true) ∧ va_K D vwCl (jtys cy) (xs X) ∧ xL X = nL ∧ (xR X).frames = fr ∧ (xR X).locals = lo ∧ (xR X).cells = kc ∧ (xR X).slots = ns ∧ (∀ q : Nat, (xs X).heap.size ≤ q → A q) ∧ lV (xs X)
def lI (X : jX) : Prop := (xh X).name = "<init>" ∧ (xh X).sig.returnType = none ∧ (xh X).locks = false
/-- a constructor's end: its world, at addresses that u names -/
def lQ (D : va_G) (w1 : (Nat → Nat) → va_W) (A : Nat → Prop) : Array Value → State → Outcome → State → Prop := fun _ st oc t => oc = .returned none ∧ (∃ u : Nat → Nat, va_P D vwCl (w1 u) t.heap ∧ va_D A (w1 u)) ∧ va_F A st t
def lPre (D : va_G) (cy : Nat → ClassId) (sz : Nat) (wc : va_W) (U : State) : Prop := U.heap.size = sz ∧ va_P D vwCl wc U.heap ∧ va_K D vwCl (jtys cy) U ∧ va_D (fun _ => True) wc ∧ lV U
def lRet (X : jX) (D : va_G) (w1 : (Nat → Nat) → va_W) (A : Nat → Prop) (k n : Nat) : Prop := xQ X = MQ (xb X) (lQ D w1 A) (xa X) (xs X) k n A
set_option maxHeartbeats 4000000 in
theorem lMet {l : Launch} {D : va_G} {cy : Nat → ClassId} {y : MethodName} {cc : ByteArray} {nL fr lo kc ns sz : Nat} {own : String} {av : List Value} {wc : va_W} {w1 : (Nat → Nat) → va_W} (hy : plainName y.cls = true) (ho : y.cls = own) (hyi : y.name = "<init>") (hn : (lg_sl av).length ≤ nL)
    (body : ∀ X A, xl X = l → (xs X).heap.size = sz → lC X D cy A own cc nL fr lo kc ns → lI X → A = va_A wc sz → lRet X D w1 A kc ns → jL X D A 0 0 0 (lv_args 0 av) [] wc) : Met l y (.code y cc nL none :: jT) { frames := fr, cells := kc, slots := ns, locals := lo } (va_Pc av (lPre D cy sz wc)) (lQ D w1 (va_A wc sz)) kc ns (va_A wc sz) := by
  refine Met.ofW (cc := cc) (maxL := nL) (ret := none) hy rfl ?_
  intro p e s m args below meth c s₁ B hml hv
  obtain ⟨rfl, hsz, hP, hK, hD0, hV⟩ := hv
  have hts := atoms_spec (ws := .code y cc nL none :: jT) B.pre
  have hown : s.vm.findClass y.cls = some m.cls := findClass_of_methodNamed B.named
  have hin : meth.name = y.name := (name_of_methodNamed B.named B.method).1
  rw [lg_entry_eq]
  subst hsz
  exact body (p, l, e, { frames := fr, cells := kc, slots := ns, locals := lo }, s, m, av.toArray, below, meth, c, 0, 0, MQ below (lQ D w1 (va_A wc s.heap.size)) av.toArray s kc ns (va_A wc s.heap.size), nL) _ rfl rfl
    ⟨B.exec, B.bytes, hml, by rw [← ho]; exact hown, fun w h => hts w (jT_cons h), hK, rfl, rfl, rfl, rfl, rfl, fun q h => Or.inr h, hV⟩ ⟨by rw [← hyi]; exact hin, B.returns, B.notSynchronized⟩ rfl rfl _ _ _ (lv_entry av hn) hP hD0.self va_S.rf
section lRows
variable {X : jX} {D : va_G} {cy : Nat → ClassId} {A : Nat → Prop} {own : String} {cc : ByteArray} {nL fr lo kc ns k n pc : Nat} {lv : List (Nat × Value)} {st : List Value} {ws : va_W}
theorem l_iconst (C : lC X D cy A own cc nL fr lo kc ns) {i : Int} {v : Int32} (d : decode cc pc = .ok (.iconst i, 1)) (hv : Int32.ofInt i = v) (K : jL X D A k n (pc + 1) lv (.int v :: st) ws) : jL X D A k n pc lv (st) ws := fun ls H locs hl hP hD hS => lv_iconst C.1 C.2.1 d hv (K ls H locs hl hP hD hS)
theorem l_lconst (C : lC X D cy A own cc nL fr lo kc ns) {i : Fin 2} {v : Int64} (d : decode cc pc = .ok (.lconst i, 1)) (hv : Int64.ofNat (i : Nat) = v) (K : jL X D A k n (pc + 1) lv (.long v :: st) ws) : jL X D A k n pc lv (st) ws := fun ls H locs hl hP hD hS => lv_lconst C.1 C.2.1 d hv (K ls H locs hl hP hD hS)
theorem l_bipush (C : lC X D cy A own cc nL fr lo kc ns) {i : Int} {v : Int32} (d : decode cc pc = .ok (.bipush i, 2)) (hv : (Int8.ofInt i).toInt32 = v) (K : jL X D A k n (pc + 2) lv (.int v :: st) ws) : jL X D A k n pc lv (st) ws := fun ls H locs hl hP hD hS => lv_bipush C.1 C.2.1 d hv (K ls H locs hl hP hD hS)
theorem l_sipush (C : lC X D cy A own cc nL fr lo kc ns) {i : Int} {v : Int32} (d : decode cc pc = .ok (.sipush i, 3)) (hv : (Int16.ofInt i).toInt32 = v) (K : jL X D A k n (pc + 3) lv (.int v :: st) ws) : jL X D A k n pc lv (st) ws := fun ls H locs hl hP hD hS => lv_sipush C.1 C.2.1 d hv (K ls H locs hl hP hD hS)
theorem l_dup (C : lC X D cy A own cc nL fr lo kc ns) {va : Value} (d : decode cc pc = .ok (.dup, 1)) (hva : va.category = 1) (K : jL X D A k n (pc + 1) lv (va :: va :: st) ws) : jL X D A k n pc lv (va :: st) ws := fun ls H locs hl hP hD hS => lv_dup C.1 C.2.1 d hva (K ls H locs hl hP hD hS)
theorem l_iload_n (C : lC X D cy A own cc nL fr lo kc ns) {i : Fin 4} {x : Int32} (d : decode cc pc = .ok (.iload_n i, 1)) (q : Nat) (h : lv[q]? = some ((i : Nat), .int x)) (K : jL X D A k n (pc + 1) lv (.int x :: st) ws) : jL X D A k n pc lv st ws := fun ls H locs hl hP hD hS => lv_iload_n C.1 C.2.1 d rfl (lv_at hl q h) (K ls H locs hl hP hD hS)
theorem l_aload_n (C : lC X D cy A own cc nL fr lo kc ns) {i : Fin 4} {x : Nat} (d : decode cc pc = .ok (.aload_n i, 1)) (q : Nat) (h : lv[q]? = some ((i : Nat), .ref x)) (K : jL X D A k n (pc + 1) lv (.ref x :: st) ws) : jL X D A k n pc lv st ws := fun ls H locs hl hP hD hS => lv_aload_n C.1 C.2.1 d rfl (lv_at hl q h) (K ls H locs hl hP hD hS)
theorem l_istore_n (C : lC X D cy A own cc nL fr lo kc ns) {j : Fin 4} {i : Nat} {x : Int32} {lv' : List (Nat × Value)} (d : decode cc pc = .ok (.istore_n j, 1)) (hi : (j : Nat) = i) (hn : i < nL) (hf : (i, Value.int x) :: lv.filter (fun q => !(q.1 == i) && !(q.1 + 1 == i && q.2.category == 2)) = lv') (K : jL X D A k n (pc + 1) lv' st ws) : jL X D A k n pc lv (.int x :: st) ws := fun ls H locs hl hP hD hS => lv_istore_n C.1 C.2.1 d hi hl (by rw [C.2.2.2.2.2.2.1]; exact hn) hf (fun ls' hl' => K ls' H locs hl' hP hD hS)
theorem l_astore_n (C : lC X D cy A own cc nL fr lo kc ns) {j : Fin 4} {i : Nat} {x : Nat} {lv' : List (Nat × Value)} (d : decode cc pc = .ok (.astore_n j, 1)) (hi : (j : Nat) = i) (hn : i < nL) (hf : (i, Value.ref x) :: lv.filter (fun q => !(q.1 == i) && !(q.1 + 1 == i && q.2.category == 2)) = lv') (K : jL X D A k n (pc + 1) lv' st ws) : jL X D A k n pc lv (.ref x :: st) ws := fun ls H locs hl hP hD hS => lv_astore_n C.1 C.2.1 d hi hl (by rw [C.2.2.2.2.2.2.1]; exact hn) hf (fun ls' hl' => K ls' H locs hl' hP hD hS)
theorem l_iinc (C : lC X D cy A own cc nL fr lo kc ns) {i : Nat} {m : Int} {x v : Int32} {lv' : List (Nat × Value)} (d : decode cc pc = .ok (.iinc i m, 3)) (q : Nat) (h : lv[q]? = some (i, .int x)) (hv : x + Int32.ofInt m = v) (hn : i < nL) (hf : (i, Value.int v) :: lv.filter (fun q => !(q.1 == i) && !(q.1 + 1 == i && q.2.category == 2)) = lv') (K : jL X D A k n (pc + 3) lv' st ws) : jL X D A k n pc lv st ws := fun ls H locs hl hP hD hS => lv_iinc C.1 C.2.1 d hl h hv (by rw [C.2.2.2.2.2.2.1]; exact hn) hf (fun ls' hl' => K ls' H locs hl' hP hD hS)
theorem l_goto (C : lC X D cy A own cc nL fr lo kc ns) {off : Int} {tgt : Nat} (d : decode cc pc = .ok (.goto off, 3)) (ht : (pc : Int) + off = (tgt : Int)) (K : jL X D A k n tgt lv st ws) : jL X D A k n pc lv st ws := fun ls H locs hl hP hD hS => lv_goto C.1 C.2.1 d ht (K ls H locs hl hP hD hS)
theorem l_geN (C : lC X D cy A own cc nL fr lo kc ns) {x y : Int32} {off : Int} {tgt : Nat} (d : decode cc pc = .ok (.if_icmp .ge off, 3)) (ht : (pc : Int) + off = (tgt : Int)) (h : ¬ y ≤ x) (K : jL X D A k n (pc + 3) lv st ws) : jL X D A k n pc lv (.int y :: .int x :: st) ws := fun ls H locs hl hP hD hS => lv_icmp_ge C.1 C.2.1 d ht (fun c => absurd c h) (fun _ => K ls H locs hl hP hD hS)
theorem l_geY (C : lC X D cy A own cc nL fr lo kc ns) {x y : Int32} {off : Int} {tgt : Nat} (d : decode cc pc = .ok (.if_icmp .ge off, 3)) (ht : (pc : Int) + off = (tgt : Int)) (h : y ≤ x) (K : jL X D A k n tgt lv st ws) : jL X D A k n pc lv (.int y :: .int x :: st) ws := fun ls H locs hl hP hD hS => lv_icmp_ge C.1 C.2.1 d ht (fun _ => K ls H locs hl hP hD hS) (fun c => absurd h c)
theorem l_objInit (C : lC X D cy A own cc nL fr lo kc ns) {idx a : Nat} (hw : Cond.methodLink own idx Lib.objectInit ∈ jT) (hw2 : Cond.instanceMethod Lib.objectInit ∈ jT) (hw3 : Cond.code Lib.objectInit ⟨#[0xb1]⟩ 1 none ∈ jT) (hfr : 1 ≤ fr) (hlo : (st.map fun v => v.category).sum + 12 ≤ lo) (d : decode cc pc = .ok (.invokespecial idx, 3)) (K : jL X D A k n (pc + 3) lv st ws) : jL X D A k n pc lv (.ref a :: st) ws := by
  obtain ⟨hx, hb, hml, hown, hts, hK, hL, hRf, hRl, -⟩ := C
  intro ls H locs hl hP hD hS
  refine W.objInit (g := F0 (xm X) pc ls (.ref a :: st)) hx hb hown (hts _ hw) (hts _ hw2) (hts _ hw3) rfl (by rw [hml, ← hL]; exact hl.1) rfl d (by rw [hRf]; exact hfr) ?_ (K ls H locs hl hP hD hS)
  rw [hRl]
  have : 2 * (F0 (xm X) pc ls (.ref a :: st)).monitorRoom = 0 := rfl
  omega
theorem l_get (C : lC X D cy A own cc nL fr lo kc ns) {p ci f idx N a : Nat} {fs : List Value} {v : Value} {Cn : String} {T : u_T} (he : ws[p]? = some (a, .inr (ci, fs))) (hc : vwCl[ci]? = some (Cn, T, N)) (hin : ∀ w ∈ u_ws Cn T N, w ∈ jT) (hf : f < N) (hl : Cond.fieldLink own idx (T f).1 (T f).2.1 (T f).2.2.1 ∈ jT) (hv : fs[f]? = some v) (d : decode cc pc = .ok (.getfield idx, 3)) (K : jL X D A k n (pc + 3) lv (v :: st) ws) : jL X D A k n pc lv (.ref a :: st) ws := by
  obtain ⟨hx, hb, hml, hown, hts, hK, -⟩ := C
  exact fun ls H locs hl' hP hD hS => va_get (D := D) (ci := ci) (v := v) (C := Cn) (T := T) (N := N) hx hb hts hin hown hK hP p he hc f hf (hts _ hl) (fun _ h9 => h9) hv d (K ls H locs hl' hP hD hS)
theorem l_putF (C : lC X D cy A own cc nL fr lo kc ns) (I : lI X) {p ci f idx N a : Nat} {fs : List Value} {v : Value} {Cn : String} {T : u_T} {ty : FieldType} {ws' : va_W} (he : ws[p]? = some (a, .inr (ci, fs))) (hc : vwCl[ci]? = some (Cn, T, N)) (hin : ∀ w ∈ u_ws Cn T N, w ∈ jT) (ty0 : Nat → FieldType) (hty : ∀ k, k < N → parseFieldDescriptor (T k).2.2.1 = some (ty0 k)) (hnm : ∀ a, a < N → ∀ b, b < N → a ≠ b → (T a).2.1 ≠ (T b).2.1) (hf : f < N) (hl : Cond.fieldLink own idx (T f).1 (T f).2.1 (T f).2.2.1 ∈ jT) (hfin : (T f).2.2.2 = true) (hdecl : (T f).1 = own) (hd : parseFieldDescriptor (T f).2.2.1 = some ty) (hnr : narrow ty v = v) (hfit : fits ty v = true) (hlen : f < fs.length) (d : decode cc pc = .ok (.putfield idx, 3)) (hw : ws.set p (a, .inr (ci, fs.set f v)) = ws') (K : jL X D A k n (pc + 3) lv st ws') : jL X D A k n pc lv (v :: .ref a :: st) ws := by
  obtain ⟨hx, hb, hml, hown, hts, hK, -⟩ := C
  subst hw
  exact fun ls H locs hl' hP hD hS => va_putF (D := D) (ci := ci) (v := v) (ty := ty) (C := Cn) (T := T) (N := N) hx hb hts hin ty0 hty hnm hown hK hP hD hS p he hc f hf (hts _ hl) (fun _ h9 => h9) hfin I.1 hdecl hd hnr hfit hlen d (fun H1 locs1 hP1 hD1 hS1 => K ls H1 locs1 hl' hP1 hD1 hS1)
theorem l_put (C : lC X D cy A own cc nL fr lo kc ns) {p ci f idx N a : Nat} {fs : List Value} {v : Value} {Cn : String} {T : u_T} {ty : FieldType} {ws' : va_W} (he : ws[p]? = some (a, .inr (ci, fs))) (hc : vwCl[ci]? = some (Cn, T, N)) (hin : ∀ w ∈ u_ws Cn T N, w ∈ jT) (ty0 : Nat → FieldType) (hty : ∀ k, k < N → parseFieldDescriptor (T k).2.2.1 = some (ty0 k)) (hnm : ∀ a, a < N → ∀ b, b < N → a ≠ b → (T a).2.1 ≠ (T b).2.1) (hf : f < N) (hl : Cond.fieldLink own idx (T f).1 (T f).2.1 (T f).2.2.1 ∈ jT) (hfin : (T f).2.2.2 = false) (hd : parseFieldDescriptor (T f).2.2.1 = some ty) (hnr : narrow ty v = v) (hfit : fits ty v = true) (hlen : f < fs.length) (d : decode cc pc = .ok (.putfield idx, 3)) (hw : ws.set p (a, .inr (ci, fs.set f v)) = ws') (K : jL X D A k n (pc + 3) lv st ws') : jL X D A k n pc lv (v :: .ref a :: st) ws := by
  obtain ⟨hx, hb, hml, hown, hts, hK, -⟩ := C
  subst hw
  exact fun ls H locs hl' hP hD hS => va_put (D := D) (ci := ci) (v := v) (ty := ty) (C := Cn) (T := T) (N := N) hx hb hts hin ty0 hty hnm hown hK hP hD hS p he hc f hf (hts _ hl) (fun _ h9 => h9) hfin hd hnr hfit hlen d (fun H1 locs1 hP1 hD1 hS1 => K ls H1 locs1 hl' hP1 hD1 hS1)
theorem l_new (C : lC X D cy A own cc nL fr lo kc ns) {ci idx N : Nat} {fs : List Value} {Cn : String} {T : u_T} {ws' : Nat → va_W} (hc : vwCl[ci]? = some (Cn, T, N)) (hin : ∀ w ∈ u_ws Cn T N, w ∈ jT) (ty0 : Nat → FieldType) (hty : ∀ k, k < N → parseFieldDescriptor (T k).2.2.1 = some (ty0 k)) (hw1 : Cond.classLink own idx Cn ∈ jT) (hw2 : Cond.instantiable Cn N ∈ jT) (hw3 : Cond.initialized Cn ∈ jT) (hfs : ∀ j, j < N → defaultValue (ty0 j) = vp_V fs j) (hk : k + 1 ≤ kc) (hs : n + N ≤ ns) (d : decode cc pc = .ok (.new idx, 3)) (hw : ∀ q, ws ++ [(q, .inr (ci, fs))] = ws' q) (K : ∀ q, jL X D A (k + 1) (n + N) (pc + 3) lv (.ref q :: st) (ws' q)) : jL X D A k n pc lv st ws := by
  obtain ⟨hx, hb, hml, hown, hts, hK, hL, hRf, hRl, hRk, hRn, hA, hV⟩ := C
  exact fun ls H locs hl' hP hD hS => va_new (ci := ci) (fs := fs) (C := Cn) (T := T) (N := N) hx hb hts hin ty0 hty hown (hts _ hw1) (hts _ hw2) (hts _ hw3) hK hP hD hS hA hc hfs (by rw [hRk]; exact hk) (by rw [hRn]; exact hs) d (fun q H1 hP1 hD1 hS1 => K q ls H1 locs hl' (by rw [← hw]; exact hP1) (by rw [← hw]; exact hD1) hS1)
theorem l_cA {s : State} {t : Nat} {ty : FieldType} {cA : ClassId} (ht : (jtys cy)[t]? = some (cy t, ty)) (hK : va_K D vwCl (jtys cy) s) (hK' : va_K D vwCl (jtys cy ++ [(cA, ty)]) s) : cA = cy t := by
  have h1 := (hK.2 t _ ht).2
  have h2 := (hK'.2 (jtys cy).length (cA, ty) (by rw [List.getElem?_append_right (Nat.le_refl _), Nat.sub_self]; rfl)).2
  cases ty with
  | object Cn =>
    obtain ⟨k1, c1, -, -, -, g1⟩ := h1
    obtain ⟨k2, c2, -, -, -, g2⟩ := h2
    exact Option.some.inj (g2.symm.trans g1)
  | _ => exact Option.some.inj ((show s.vm.findClass _ = some cA from h2).symm.trans (show s.vm.findClass _ = some (cy t) from h1))
theorem l_newa (C : lC X D cy A own cc nL fr lo kc ns) {atype : ArrayType} {ty : FieldType} {t N : Nat} {i : Int32} {ws' : Nat → va_W} (hty : newarray.typeOf atype = ty) (ht : (jtys cy)[t]? = some (cy t, ty)) (hw1 : Cond.arrayClass (newarray.typeOf atype) ∈ jT) (hdef : defaultValue ty = .int 0) (hi : ¬ i < 0) (hN : i.toNatClampNeg = N) (hby : N * componentBytes ty ≤ 536870912) (hk : k + 1 ≤ kc) (hs : n + N ≤ ns) (d : decode cc pc = .ok (.newarray atype, 2)) (hw : ∀ q, ws ++ [(q, .inl (cy t, N, .inl (fun _ => 0)))] = ws' q) (K : ∀ q, jL X D A (k + 1) (n + N) (pc + 2) lv (.ref q :: st) (ws' q)) : jL X D A k n pc lv (.int i :: st) ws := by
  obtain ⟨hx, hb, hml, hown, hts, hK, hL, hRf, hRl, hRk, hRn, hA, hV⟩ := C
  intro ls H locs hl' hP hD hS
  refine va_newa (atype := atype) (a0 := (N, .inl (fun _ => 0))) hx hb (hts _ hw1) hty hK hP hD hS hA (fun cA => by rw [hdef]; rfl) hi hN hby (by rw [hRk]; exact hk) (by rw [hRn]; exact hs) d (fun q cA H1 hK1 hP1 hD1 hS1 => ?_)
  have e := l_cA ht hK hK1
  subst e
  exact K q ls H1 locs hl' (by rw [← hw]; exact hP1) (by rw [← hw]; exact hD1) hS1
theorem l_newq (C : lC X D cy A own cc nL fr lo kc ns) {Cn : String} {t idx N : Nat} {i : Int32} {ws' : Nat → va_W} (ht : (jtys cy)[t]? = some (cy t, .object Cn)) (hw1 : Cond.classLink own idx Cn ∈ jT) (hao : va_AO Cn (xs X)) (hi : ¬ i < 0) (hN : i.toNatClampNeg = N) (hby : N * 4 ≤ 536870912) (hk : k + 1 ≤ kc) (hs : n + N ≤ ns) (d : decode cc pc = .ok (.anewarray idx, 3)) (hw : ∀ q, ws ++ [(q, .inl (cy t, N, .inr (.inr (.inr (.inr (fun _ => none))))))] = ws' q) (K : ∀ q, jL X D A (k + 1) (n + N) (pc + 3) lv (.ref q :: st) (ws' q)) : jL X D A k n pc lv (.int i :: st) ws := by
  obtain ⟨hx, hb, hml, hown, hts, hK, hL, hRf, hRl, hRk, hRn, hA, hV⟩ := C
  intro ls H locs hl' hP hD hS
  refine va_newq hx hb hown (hts _ hw1) hao hK hP hD hS hA hi hN hby (by rw [hRk]; exact hk) (by rw [hRn]; exact hs) d (fun q cA H1 hK1 hP1 hD1 hS1 => ?_)
  have e := l_cA ht hK hK1
  subst e
  exact K q ls H1 locs hl' (by rw [← hw]; exact hP1) (by rw [← hw]; exact hD1) hS1
theorem l_astq (C : lC X D cy A own cc nL fr lo kc ns) {p p2 t ci N a v : Nat} {r : vw_C} {vs : List Value} {f : Nat → Option Nat} {i : Int32} {E : String} {ws' : va_W} (ha : ws[p]? = some (a, .inl (cy t, N, .inr (.inr (.inr (.inr f)))))) (ht : (jtys cy)[t]? = some (cy t, .object E)) (hca : r.1 = E ∨ va_Nw (.castable r.1 E) (xs X)) (hv : ws[p2]? = some (v, .inr (ci, vs))) (hc : vwCl[ci]? = some r) (hi : jb i N = true) (d : decode cc pc = .ok (.aastore, 1)) (hw : ws.set p (a, .inl (cy t, N, .inr (.inr (.inr (.inr (va_up f i.toNatClampNeg (some v))))))) = ws') (K : jL X D A k n (pc + 1) lv st ws') : jL X D A k n pc lv (.ref v :: .int i :: .ref a :: st) ws := by
  obtain ⟨hx, hb, hml, hown, hts, hK, -⟩ := C
  subst hw
  intro ls H locs hl' hP hD hS
  rcases hca with h | h
  · subst h
    exact va_astq hx hb hK hP hD hS p t p2 ci ha ht hv hc (jb_in hi) d (fun H1 locs1 hP1 hD1 hS1 => K ls H1 locs1 hl' hP1 hD1 hS1)
  · exact va_astqO hx hb hK hP hD hS p t p2 ci ha ht h hv hc (jb_in hi) d (fun H1 locs1 hP1 hD1 hS1 => K ls H1 locs1 hl' hP1 hD1 hS1)
theorem lPre_blind {av : List Value} {sz : Nat} {wc : va_W} : FrameBlind (va_Pc av (lPre D cy sz wc)) := by
  intro a U g mk h
  obtain ⟨h1, hz, hP, hK, hD, hV⟩ := h
  exact ⟨h1, hz, hP, va_K.moved (u := U) (U := U.calling g mk a) (Vm.Alike.refl U.vm) hK, hD, lV.same rfl hV⟩
theorem l_run {mc ms : Nat} {a : Array Value} {wc wr : va_W} {w1 : (Nat → Nat) → va_W} {st0 : List Value} {ls : Array Slot} {H : Heap} {locs : List Loc} (hA : ∀ q : Nat, (xs X).heap.size ≤ q → A q) (isC isR : List Nat) (hC : isC.map (fun i => ws[i]?) = wc.map some) (hR : isR.map (fun i => ws[i]?) = wr.map some) (hn : va_nd isR = true) (hdis : ∀ i ∈ isR, i ∉ isC)
    (hr : va_Run (xp X) (xl X) (xe X) (xR X) (xs X) (xm X) (xa X) (xb X) (xh X) (xc X) H locs k n mc ms (F0 (xm X) pc ls st0) st (lQ D w1 (va_A wc H.size) a) (va_A wc H.size)) (hl : lv_has ls (xL X) lv) (hP : va_P D vwCl ws H) (hD : va_D A ws) (hS : va_S A (xs X).heap H locs) (K : ∀ u, jL X D A (k + mc) (n + ms) (pc + 3) lv st (wr ++ w1 u)) : W (xp X) (xl X) (xe X) (xR X) (xs X) (xm X) (xa X) (xb X) (xh X) (xc X) H locs k n (xQ X) (F0 (xm X) pc ls st0) := by
  have hF := va_free (wc := wc) hD hS hA isC hC
  intro T hT X1
  obtain ⟨v, st₀, t, T', L, h0, X', hL, e1, e2, ⟨hv, ⟨u, hP1, hD1⟩, hz, hk⟩, stp⟩ := hr T hT X1
  cases hv
  rw [h0] at hz hk
  have hk' : ∀ q : Nat, q < H.size → ¬ va_A wc H.size q → T'.heap[q]? = H[q]? := fun q g1 g2 => by rw [e1]; exact hk q g1 g2
  obtain ⟨j1, j2⟩ := va_join (wr := wr) (w1 := w1 u) hP hD isC isR hC hR hn hdis hk' hF (by rw [e1]; exact hP1) hD1
  obtain ⟨t2, a1, b1⟩ := K u ls T'.heap (locs ++ L) hl j1 j2 ⟨Nat.le_trans hS.1 (by rw [e1]; exact hz), fun q h1 h2 => by rw [hk' q (Nat.lt_of_lt_of_le h1 hS.1) (fun z => h2 (hF q z))]; exact hS.2.1 q h1 h2, fun q hq => by
      rcases List.mem_append.mp hq with h | h
      · exact hS.2.2 q h
      · exact hF _ (hL q h)⟩ T' rfl X'
  exact ⟨t2, stp t2 a1, b1⟩
theorem l_callI (C : lC X D cy A own cc nL fr lo kc ns) {y : MethodName} {bytes : ByteArray} {maxL fr1 lo1 mc ms idx nn b : Nat} {As stk : List Value} {wc wr : va_W} {w1 : (Nat → Nat) → va_W} {ws' : (Nat → Nat) → va_W} (isC isR : List Nat) (hM : ∀ sz, Met (xl X) y (.code y bytes maxL none :: jT) { frames := fr1, cells := mc, slots := ms, locals := lo1 } (va_Pc (.ref b :: As) (lPre D cy sz wc)) (lQ D w1 (va_A wc sz)) mc ms (va_A wc sz)) (hC : isC.map (fun i => ws[i]?) = wc.map some) (hC2 : isC.filterMap (fun i => ws[i]?) = wc) (hR : isR.map (fun i => ws[i]?) = wr.map some) (hn : va_nd isR = true) (hnc : va_nd isC = true) (hdis : ∀ i ∈ isR, i ∉ isC) (hyi : y.name = "<init>") (hw1 : Cond.methodLink own idx y ∈ jT) (hw2 : Cond.instanceMethod y ∈ jT) (hw4 : Cond.initialized y.cls ∈ jT) (hw5 : Cond.code y bytes maxL none ∈ jT) (hd : y.cls ≠ "java/lang/invoke/MethodHandle" ∧ y.cls ≠ "java/lang/invoke/VarHandle" ∧ (parseMethodDescriptor y.desc).map (fun d => d.parameters.length) = some nn) (hnn : As.length = nn) (hfr : fr1 + 1 ≤ fr) (hlo : 8 + (maxL + 11) + lo1 ≤ lo) (hst : (st.map fun v => v.category).sum ≤ 8) (hk : k + mc ≤ kc) (hns : n + ms ≤ ns) (hs : stk = As.reverse ++ .ref b :: st) (d : decode cc pc = .ok (.invokespecial idx, 3)) (hw : ∀ u, wr ++ w1 u = ws' u) (K : ∀ u, jL X D A (k + mc) (n + ms) (pc + 3) lv st (ws' u)) : jL X D A k n pc lv stk ws := by
  obtain ⟨hx, hb, hml, hown, hts, hK, hL, hRf, hRl, hRk, hRn, hA, hV⟩ := C
  subst hs
  intro ls H locs hl hP hD hS
  refine l_run hA isC isR hC hR hn hdis (va_runI (As := As) (rest := st) ⟨hx, hb, by rw [hml, ← hL], hown, hts⟩ (hM H.size) (cwI nn hts (jT_goodIn0 hw5) rfl rfl rfl (hts _ hw4) (hts _ hw1) (hts _ hw2) hyi hd ⟨by rw [hRf]; exact hfr, by rw [hRl]; exact hlo⟩) ⟨lPre_blind, fun U hU hW => ⟨rfl, by rw [hU], by rw [hU]; exact hP.sub isC hC2, va_K.moved hW.alike hK, (hD.sub isC hnc hC).weaken (fun _ _ _ _ => trivial), hV.warm hW⟩⟩ rfl hnn hl.1 rfl (lv_room hst) d ⟨by rw [hRk]; exact hk, by rw [hRn]; exact hns⟩) hl hP hD hS (fun u => by rw [hw]; exact K u)
/-- a nest mate's constructor -/
theorem l_callIN (C : lC X D cy A own cc nL fr lo kc ns) {y : MethodName} {host : String} {bytes : ByteArray} {maxL fr1 lo1 mc ms idx nn b : Nat} {As stk : List Value} {wc wr : va_W} {w1 : (Nat → Nat) → va_W} {ws' : (Nat → Nat) → va_W} (isC isR : List Nat) (hM : ∀ sz, Met (xl X) y (.code y bytes maxL none :: jT) { frames := fr1, cells := mc, slots := ms, locals := lo1 } (va_Pc (.ref b :: As) (lPre D cy sz wc)) (lQ D w1 (va_A wc sz)) mc ms (va_A wc sz)) (hC : isC.map (fun i => ws[i]?) = wc.map some) (hC2 : isC.filterMap (fun i => ws[i]?) = wc) (hR : isR.map (fun i => ws[i]?) = wr.map some) (hn : va_nd isR = true) (hnc : va_nd isC = true) (hdis : ∀ i ∈ isR, i ∉ isC) (hyi : y.name = "<init>") (hw1 : va_Nw (.methodLinkNest own idx y host) (xs X)) (hw2 : Cond.instanceMethod y ∈ jT) (hw4 : Cond.initialized y.cls ∈ jT) (hw5 : Cond.code y bytes maxL none ∈ jT) (hd : y.cls ≠ "java/lang/invoke/MethodHandle" ∧ y.cls ≠ "java/lang/invoke/VarHandle" ∧ (parseMethodDescriptor y.desc).map (fun d => d.parameters.length) = some nn) (hnn : As.length = nn) (hfr : fr1 + 1 ≤ fr) (hlo : 8 + (maxL + 11) + lo1 ≤ lo) (hst : (st.map fun v => v.category).sum ≤ 8) (hk : k + mc ≤ kc) (hns : n + ms ≤ ns) (hs : stk = As.reverse ++ .ref b :: st) (d : decode cc pc = .ok (.invokespecial idx, 3)) (hw : ∀ u, wr ++ w1 u = ws' u) (K : ∀ u, jL X D A (k + mc) (n + ms) (pc + 3) lv st (ws' u)) : jL X D A k n pc lv stk ws := by
  obtain ⟨hx, hb, hml, hown, hts, hK, hL, hRf, hRl, hRk, hRn, hA, hV⟩ := C
  subst hs
  intro ls H locs hl hP hD hS
  refine l_run hA isC isR hC hR hn hdis (va_runIN (As := As) (rest := st) ⟨hx, hb, by rw [hml, ← hL], hown, hts⟩ (hM H.size) ⟨va_cnB nn hts (jT_goodIn0 hw5) rfl rfl rfl hw1 (hts _ hw4) hd ⟨by rw [hRf]; exact hfr, by rw [hRl]; exact hlo⟩, hyi, hts _ hw2⟩ ⟨lPre_blind, fun U hU hW => ⟨rfl, by rw [hU], by rw [hU]; exact hP.sub isC hC2, va_K.moved hW.alike hK, (hD.sub isC hnc hC).weaken (fun _ _ _ _ => trivial), hV.warm hW⟩⟩ rfl hnn hl.1 rfl (lv_room hst) d ⟨by rw [hRk]; exact hk, by rw [hRn]; exact hns⟩) hl hP hD hS (fun u => by rw [hw]; exact K u)
theorem l_vret (C : lC X D cy A own cc nL fr lo kc ns) (I : lI X) {w1 : (Nat → Nat) → va_W} (Q : lRet X D w1 A k n) (d : decode cc pc = .ok (.return_, 1)) (hu : ∃ u : Nat → Nat, ∀ H, va_P D vwCl ws H → va_D A ws → va_P D vwCl (w1 u) H ∧ va_D A (w1 u)) : jL X D A k n pc lv [] ws := by
  obtain ⟨hx, hb, hml, hown, hts, hK, -⟩ := C
  obtain ⟨u, hu⟩ := hu
  intro ls H locs hl hP hD hS
  have h := W.vret (p := xp X) (l := xl X) (e := xe X) (R := xR X) (s := xs X) (m := xm X) (args := xa X) (below := xb X) (meth := xh X) (c := xc X) (H := H) (locs := locs) (cells := k) (slots := n) (ls := ls) (Qc := lQ D w1 A) (free := A) hx hb I.2.1 (fun t ht hW => ⟨rfl, ⟨u, by rw [ht]; exact (hu H hP hD).1, (hu H hP hD).2⟩, hS.F ht⟩) hS.2.2 d I.2.2
  unfold lRet at Q
  show W _ _ _ _ _ _ _ _ _ _ _ _ _ _ (xQ X) _
  rw [Q]
  exact h
end lRows
theorem arrV_congr {c : ClassId} {n : Nat} {f g : Nat → Value} (h : ∀ j, j < n → f j = g j) : arrV c n f = arrV c n g := by
  unfold arrV
  congr 1
  apply congrArg
  funext j
  exact h j.1 j.2
theorem va_Pref {D : va_G} {cl : List vw_C} {ws : va_W} {H : Heap} {p a n : Nat} {c : ClassId} {f g : Nat → Option Nat} (h : va_P D cl ws H) (he : ws[p]? = some (a, .inl (c, n, .inr (.inr (.inr (.inr f)))))) (hfg : ∀ j, j < n → f j = g j) : va_P D cl (ws.set p (a, .inl (c, n, .inr (.inr (.inr (.inr g)))))) H := by
  intro i q hq
  have hl := (List.getElem?_eq_some_iff.mp he).1
  by_cases hi : i = p
  · subst hi
    rw [List.getElem?_set_self hl] at hq
    cases hq
    have h1 : H[a]? = some (vp_cell c (n, .inr (.inr (.inr (.inr f))))) := h i _ he
    show H[a]? = some (vp_cell c (n, .inr (.inr (.inr (.inr g)))))
    rw [h1, vp_cell_q, vp_cell_q]
    exact congrArg some (arrV_congr (fun j hj => by rw [hfg j hj]))
  · rw [List.getElem?_set_ne (Ne.symm hi)] at hq
    exact h i q hq
theorem l_conv {X : jX} {D : va_G} {A : Nat → Prop} {k n pc : Nat} {lv : List (Nat × Value)} {st : List Value} {ws ws' : va_W} {p a N : Nat} {c : ClassId} {f g : Nat → Option Nat} (he : ws[p]? = some (a, .inl (c, N, .inr (.inr (.inr (.inr f)))))) (hfg : ∀ j, j < N → f j = g j) (hw : ws.set p (a, .inl (c, N, .inr (.inr (.inr (.inr g))))) = ws') (K : jL X D A k n pc lv st ws') : jL X D A k n pc lv st ws := by
  subst hw
  exact fun ls H locs hl hP hD hS => K ls H locs hl (va_Pref hP he hfg) (hD.set he) hS
theorem jOk_of {Y : jY} {S : jS} (h : va_D (yA Y) (jw Y S)) (h1 : ∀ s t : State, yV Y s → s.WarmedH t.vm → s.heap.size ≤ t.heap.size → (∀ q : Nat, q < s.heap.size → ¬ yA Y q → t.heap[q]? = s.heap[q]?) → yV Y t) (h2 : ∀ s t : State, yV Y s → s.vm = t.vm → s.heap = t.heap → yV Y t) : jOk Y :=
  ⟨fun i j hi hj e => h.1 i j _ _ (jw_get Y S hi) (jw_get Y S hj) e, fun k hk => h.2 k _ (jw_get Y S hk), h1, h2⟩
