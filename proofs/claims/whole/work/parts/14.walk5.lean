set_option maxRecDepth 100000 in
theorem p_X12_next_64 {X : jX} {D : va_G} {ad : Nat → Nat} {cy : Nat → ClassId} (C : jC X (jMain D ad cy) RX12 cX12_next (some .int) 5 1 25) {z : Int32 × jS} (Q : jRet X (jMain D ad cy) (some (.int z.1), z.2)) {g : Int32 → Int32 → Int32 → jS → Option (Int32 × jS)} (hg : ∀ (x1 : Int32) (x2 : Int32) (x3 : Int32) (S : jS), g x1 x2 x3 S = some z → jJ X (jMain D ad cy) 23 [(0, .ref (ad 41)), (1, .int x1), (2, .int x2), (3, .int x3)] [] S) {k70 : Int32 → jS → Option (Int32 × jS)} (hk70 : ∀ (x2 : Int32) (S : jS), k70 x2 S = some z → jJ X (jMain D ad cy) 70 [(2, .int x2)] [] S) (x1 : Int32) (x2 : Int32) (x3 : Int32) (S : jS) (hE : f_X12_next_64 g k70 x1 x2 x3 S = some z) : jJ X (jMain D ad cy) 64 [(0, .ref (ad 41)), (1, .int x1), (2, .int x2), (3, .int x3)] [] S := by
  unfold f_X12_next_64 at hE
  refine j_iinc (v := (x3 + 1)) (lv' := [(3, .int (x3 + 1)), (0, .ref (ad 41)), (1, .int x1), (2, .int x2)]) C dX12_next_64 3 rfl (congrArg (fun w => x3 + w) jc_ic_1) (by decide) rfl ?_
  refine j_goto (tgt := 23) C dX12_next_67 rfl ?_
  refine j_sub [1, 2, 3, 0] rfl ?_
  exact hg x1 x2 (x3 + 1) S hE
set_option maxRecDepth 100000 in
theorem p_X12_next_63 {X : jX} {D : va_G} {ad : Nat → Nat} {cy : Nat → ClassId} (C : jC X (jMain D ad cy) RX12 cX12_next (some .int) 5 1 25) {z : Int32 × jS} (Q : jRet X (jMain D ad cy) (some (.int z.1), z.2)) {g : Int32 → Int32 → Int32 → jS → Option (Int32 × jS)} (hg : ∀ (x1 : Int32) (x2 : Int32) (x3 : Int32) (S : jS), g x1 x2 x3 S = some z → jJ X (jMain D ad cy) 23 [(0, .ref (ad 41)), (1, .int x1), (2, .int x2), (3, .int x3)] [] S) {k70 : Int32 → jS → Option (Int32 × jS)} (hk70 : ∀ (x2 : Int32) (S : jS), k70 x2 S = some z → jJ X (jMain D ad cy) 70 [(2, .int x2)] [] S) (a0 : Int32) (x1 : Int32) (x3 : Int32) (S : jS) (hE : f_X12_next_63 g k70 a0 x1 x3 S = some z) : jJ X (jMain D ad cy) 63 [(0, .ref (ad 41)), (1, .int x1), (3, .int x3)] [.int a0] S := by
  unfold f_X12_next_63 at hE
  refine j_istore_n (i := 2) (lv' := [(2, .int a0), (0, .ref (ad 41)), (1, .int x1), (3, .int x3)]) C dX12_next_63 rfl (by decide) rfl ?_
  refine j_sub [1, 2, 0, 3] rfl ?_
  exact p_X12_next_64 C Q hg hk70 x1 a0 x3 S hE
set_option maxRecDepth 100000 in
theorem p_X12_next_57 {X : jX} {D : va_G} {ad : Nat → Nat} {cy : Nat → ClassId} (C : jC X (jMain D ad cy) RX12 cX12_next (some .int) 5 1 25) {z : Int32 × jS} (Q : jRet X (jMain D ad cy) (some (.int z.1), z.2)) {g : Int32 → Int32 → Int32 → jS → Option (Int32 × jS)} (hg : ∀ (x1 : Int32) (x2 : Int32) (x3 : Int32) (S : jS), g x1 x2 x3 S = some z → jJ X (jMain D ad cy) 23 [(0, .ref (ad 41)), (1, .int x1), (2, .int x2), (3, .int x3)] [] S) {k70 : Int32 → jS → Option (Int32 × jS)} (hk70 : ∀ (x2 : Int32) (S : jS), k70 x2 S = some z → jJ X (jMain D ad cy) 70 [(2, .int x2)] [] S) (x1 : Int32) (x3 : Int32) (x4 : Int32) (S : jS) (hE : f_X12_next_57 g k70 x1 x3 x4 S = some z) : jJ X (jMain D ad cy) 57 [(0, .ref (ad 41)), (1, .int x1), (3, .int x3), (4, .int x4)] [] S := by
  unfold f_X12_next_57 at hE
  refine j_iload C dX12_next_57 3 rfl ?_
  refine j_goto (tgt := 63) C dX12_next_59 rfl ?_
  refine j_sub [0, 1, 2] rfl ?_
  exact p_X12_next_63 C Q hg hk70 x4 x1 x3 S hE
set_option maxRecDepth 100000 in
theorem p_X12_next_23 {X : jX} {D : va_G} {ad : Nat → Nat} {cy : Nat → ClassId} (C : jC X (jMain D ad cy) RX12 cX12_next (some .int) 5 1 25) {z : Int32 × jS} (Q : jRet X (jMain D ad cy) (some (.int z.1), z.2)) {g : Int32 → Int32 → Int32 → jS → Option (Int32 × jS)} (hg : ∀ (x1 : Int32) (x2 : Int32) (x3 : Int32) (S : jS), g x1 x2 x3 S = some z → jJ X (jMain D ad cy) 23 [(0, .ref (ad 41)), (1, .int x1), (2, .int x2), (3, .int x3)] [] S) {k70 : Int32 → jS → Option (Int32 × jS)} (hk70 : ∀ (x2 : Int32) (S : jS), k70 x2 S = some z → jJ X (jMain D ad cy) 70 [(2, .int x2)] [] S) (x1 : Int32) (x2 : Int32) (x3 : Int32) (S : jS) (hE : f_X12_next_23 g k70 x1 x2 x3 S = some z) : jJ X (jMain D ad cy) 23 [(0, .ref (ad 41)), (1, .int x1), (2, .int x2), (3, .int x3)] [] S := by
  unfold f_X12_next_23 at hE
  refine j_iload_n C dX12_next_23 3 rfl ?_
  refine j_bipush (v := 8) C dX12_next_24 jc_bp_8 ?_
  refine j_icmp_ge (tgt := 70) C dX12_next_26 rfl hE (fun hE => ?_) (fun hE => ?_)
  · refine j_sub [2] rfl ?_
    exact hk70 x2 S hE
  · refine j_aload_n C dX12_next_29 0 rfl ?_
    refine g_X12_7_41 C dX12_next_30 ?_
    refine j_iload_n C dX12_next_33 3 rfl ?_
    refine l_42 C dX12_next_34 hE (fun v1 hE => ?_)
    refine j_if_le (tgt := 64) C dX12_next_35 rfl hE (fun hE => ?_) (fun hE => ?_)
    · exact p_X12_next_64 C Q hg hk70 x1 x2 x3 S hE
    · refine j_aload_n C dX12_next_38 0 rfl ?_
      refine j_iload_n C dX12_next_39 3 rfl ?_
      refine j_iload_n C dX12_next_40 1 rfl ?_
      refine k_X12_181_X12_daysTill C dX12_next_41 hE (Nat.le_of_ble_eq_true rfl) (Nat.le_of_ble_eq_true rfl) (Nat.le_of_ble_eq_true rfl) (fun v3 S2 hE => ?_)
      refine j_istore (lv' := [(4, .int v3), (0, .ref (ad 41)), (1, .int x1), (2, .int x2), (3, .int x3)]) C dX12_next_44 (by decide) rfl ?_
      refine j_iload_n C dX12_next_46 3 rfl ?_
      refine j_iconst (v := (-1)) C dX12_next_47 jc_ic_m1 ?_
      refine j_icmp_eq (tgt := 57) C dX12_next_48 rfl hE (fun hE => ?_) (fun hE => ?_)
      · refine j_sub [1, 2, 4, 0] rfl ?_
        exact p_X12_next_57 C Q hg hk70 x1 x3 v3 S2 hE
      · refine j_iload C dX12_next_51 0 rfl ?_
        refine j_iload_n C dX12_next_53 3 rfl ?_
        refine j_icmp_ge (tgt := 62) C dX12_next_54 rfl hE (fun hE => ?_) (fun hE => ?_)
        · refine j_iload_n C dX12_next_62 3 rfl ?_
          refine j_sub [1, 2, 4] rfl ?_
          exact p_X12_next_63 C Q hg hk70 x2 x1 x3 S2 hE
        · refine j_sub [1, 2, 4, 0] rfl ?_
          exact p_X12_next_57 C Q hg hk70 x1 x3 v3 S2 hE
theorem q_X12_next_23 {X : jX} {D : va_G} {ad : Nat → Nat} {cy : Nat → ClassId} (C : jC X (jMain D ad cy) RX12 cX12_next (some .int) 5 1 25) {z : Int32 × jS} (Q : jRet X (jMain D ad cy) (some (.int z.1), z.2)) {k70 : Int32 → jS → Option (Int32 × jS)} (hk70 : ∀ (x2 : Int32) (S : jS), k70 x2 S = some z → jJ X (jMain D ad cy) 70 [(2, .int x2)] [] S) (x1 : Int32) (x2 : Int32) (x3 : Int32) (S : jS) (hE : lp_X12_next_23 k70 x1 x2 x3 S = some z) : jJ X (jMain D ad cy) 23 [(0, .ref (ad 41)), (1, .int x1), (2, .int x2), (3, .int x3)] [] S :=
  jloop_P (α := Int32 × Int32 × Int32 × jS) (B := (fun g q => f_X12_next_23 (fun x1 x2 x3 S => g (x1, x2, x3, S)) k70 q.1 q.2.1 q.2.2.1 q.2.2.2)) (P := fun q => jJ X (jMain D ad cy) 23 [(0, .ref (ad 41)), (1, .int q.1), (2, .int q.2.1), (3, .int q.2.2.1)] [] q.2.2.2) (fun g q hg h => p_X12_next_23 C Q (g := fun x1 x2 x3 S => g (x1, x2, x3, S)) (fun x1 x2 x3 S h => hg (x1, x2, x3, S) h) hk70 q.1 q.2.1 q.2.2.1 q.2.2.2 h) jN (x1, x2, x3, S) hE
set_option maxRecDepth 100000 in
theorem p_X12_next_70 {X : jX} {D : va_G} {ad : Nat → Nat} {cy : Nat → ClassId} (C : jC X (jMain D ad cy) RX12 cX12_next (some .int) 5 1 25) {z : Int32 × jS} (Q : jRet X (jMain D ad cy) (some (.int z.1), z.2))  (x2 : Int32) (S : jS) (hE : f_X12_next_70  x2 S = some z) : jJ X (jMain D ad cy) 70 [(2, .int x2)] [] S := by
  unfold f_X12_next_70 at hE
  refine j_iload_n C dX12_next_70 0 rfl ?_
  exact j_iret C Q dX12_next_71 hE
set_option maxRecDepth 100000 in
theorem p_X12_next_e {X : jX} {D : va_G} {ad : Nat → Nat} {cy : Nat → ClassId} (C : jC X (jMain D ad cy) RX12 cX12_next (some .int) 5 1 25) {z : Int32 × jS} (Q : jRet X (jMain D ad cy) (some (.int z.1), z.2))  (x1 : Int32) (S : jS) (hE : f_X12_next_e  x1 S = some z) : jJ X (jMain D ad cy) 0 [(0, .ref (ad 41)), (1, .int x1)] [] S := by
  unfold f_X12_next_e at hE
  refine j_iload_n C dX12_next_0 1 rfl ?_
  refine j_i2l C dX12_next_1 ?_
  refine j_lconst (v := 0) C dX12_next_2 jc_lc_0 ?_
  refine j_ldc2 (v := 99999) C dX12_next_3 tw_1147 ?_
  refine k_X12_59_X12_in C dX12_next_6 hE (Nat.le_of_ble_eq_true rfl) (Nat.le_of_ble_eq_true rfl) (Nat.le_of_ble_eq_true rfl) (fun v2 S1 hE => ?_)
  refine j_if_ne (tgt := 19) C dX12_next_9 rfl hE (fun hE => ?_) (fun hE => ?_)
  · refine j_iconst (v := (-1)) C dX12_next_19 jc_ic_m1 ?_
    refine j_istore_n (i := 2) (lv' := [(2, .int (-1)), (0, .ref (ad 41)), (1, .int x1)]) C dX12_next_20 rfl (by decide) rfl ?_
    refine j_iconst (v := 0) C dX12_next_21 jc_ic_0 ?_
    refine j_istore_n (i := 3) (lv' := [(3, .int 0), (2, .int (-1)), (0, .ref (ad 41)), (1, .int x1)]) C dX12_next_22 rfl (by decide) rfl ?_
    refine j_sub [2, 3, 1, 0] rfl ?_
    exact q_X12_next_23 C Q (p_X12_next_70 C Q ) x1 (-1) 0 S1 hE
  · refine j_aload_n C dX12_next_12 0 rfl ?_
    refine j_bipush (v := (-2)) C dX12_next_13 jc_bp_m2 ?_
    refine k_X12_87_X12_bad C dX12_next_15 hE (Nat.le_of_ble_eq_true rfl) (Nat.le_of_ble_eq_true rfl) (Nat.le_of_ble_eq_true rfl) (fun v4 S3 hE => ?_)
    exact j_iret C Q dX12_next_18 hE
theorem c_X12_next {l : Launch} {D : va_G} {ad : Nat → Nat} {cy : Nat → ClassId} (hO : jOk (jMain D ad cy)) (x1 : Int32) (S : jS) {z : Int32 × jS} (hz : f_X12_next x1 S = some z) : Met l yX12_next (.code yX12_next cX12_next 5 (some .int) :: jT) { frames := 1, cells := 0, slots := 0, locals := 25 } (va_Pc [.ref (ad 41), .int x1] (jInv (jMain D ad cy) S)) (jQ (jMain D ad cy) (some (.int z.1), z.2)) 0 0 (yA (jMain D ad cy)) :=
  jMet hO (by decide +kernel) rfl (Nat.le_of_ble_eq_true rfl) (fun X _ C Q => p_X12_next_e C Q x1 S hz)
set_option maxRecDepth 100000 in
theorem p_X11_waitFrom_10 {X : jX} {D : va_G} {ad : Nat → Nat} {cy : Nat → ClassId} (C : jC X (jMain D ad cy) RX11 cX11_waitFrom (some .int) 4 0 0) {z : Int32 × jS} (Q : jRet X (jMain D ad cy) (some (.int z.1), z.2))  (x0 : Int32) (x1 : Int32) (S : jS) (hE : f_X11_waitFrom_10  x0 x1 S = some z) : jJ X (jMain D ad cy) 10 [(0, .int x0), (1, .int x1)] [] S := by
  unfold f_X11_waitFrom_10 at hE
  refine j_iload_n C dX11_waitFrom_10 1 rfl ?_
  refine j_iload_n C dX11_waitFrom_11 0 rfl ?_
  refine j_isub C dX11_waitFrom_12 ?_
  exact j_iret C Q dX11_waitFrom_13 hE
set_option maxRecDepth 100000 in
theorem p_X11_waitFrom_31 {X : jX} {D : va_G} {ad : Nat → Nat} {cy : Nat → ClassId} (C : jC X (jMain D ad cy) RX11 cX11_waitFrom (some .int) 4 0 0) {z : Int32 × jS} (Q : jRet X (jMain D ad cy) (some (.int z.1), z.2))  (a0 : Int32) (S : jS) (hE : f_X11_waitFrom_31  a0 S = some z) : jJ X (jMain D ad cy) 31 [] [.int a0] S := by
  unfold f_X11_waitFrom_31 at hE
  exact j_iret C Q dX11_waitFrom_31 hE
set_option maxRecDepth 100000 in
theorem p_X11_waitFrom_e {X : jX} {D : va_G} {ad : Nat → Nat} {cy : Nat → ClassId} (C : jC X (jMain D ad cy) RX11 cX11_waitFrom (some .int) 4 0 0) {z : Int32 × jS} (Q : jRet X (jMain D ad cy) (some (.int z.1), z.2))  (x0 : Int32) (x1 : Int32) (x2 : Int32) (S : jS) (hE : f_X11_waitFrom_e  x0 x1 x2 S = some z) : jJ X (jMain D ad cy) 0 [(0, .int x0), (1, .int x1), (2, .int x2)] [] S := by
  unfold f_X11_waitFrom_e at hE
  refine j_iload_n C dX11_waitFrom_0 0 rfl ?_
  refine j_iload_n C dX11_waitFrom_1 1 rfl ?_
  refine j_icmp_le (tgt := 10) C dX11_waitFrom_2 rfl hE (fun hE => ?_) (fun hE => ?_)
  · refine j_sub [0, 1] rfl ?_
    exact p_X11_waitFrom_10 C Q  x0 x1 S hE
  · refine j_iload_n C dX11_waitFrom_5 2 rfl ?_
    refine j_iconst (v := 1) C dX11_waitFrom_6 jc_ic_1 ?_
    refine j_icmp_ge (tgt := 14) C dX11_waitFrom_7 rfl hE (fun hE => ?_) (fun hE => ?_)
    · refine j_iload_n C dX11_waitFrom_14 0 rfl ?_
      refine j_iload_n C dX11_waitFrom_15 1 rfl ?_
      refine j_isub C dX11_waitFrom_16 ?_
      refine j_iload_n C dX11_waitFrom_17 2 rfl ?_
      refine j_irem C dX11_waitFrom_18 hE (fun v1 hE => ?_)
      refine j_istore_n (i := 3) (lv' := [(3, .int v1), (0, .int x0), (1, .int x1), (2, .int x2)]) C dX11_waitFrom_19 rfl (by decide) rfl ?_
      refine j_iload_n C dX11_waitFrom_20 0 rfl ?_
      refine j_if_ne (tgt := 28) C dX11_waitFrom_21 rfl hE (fun hE => ?_) (fun hE => ?_)
      · refine j_iload_n C dX11_waitFrom_28 3 rfl ?_
        refine j_iload_n C dX11_waitFrom_29 0 rfl ?_
        refine j_isub C dX11_waitFrom_30 ?_
        refine j_sub [] rfl ?_
        exact p_X11_waitFrom_31 C Q  (x2 - v1) S hE
      · refine j_iconst (v := 0) C dX11_waitFrom_24 jc_ic_0 ?_
        refine j_goto (tgt := 31) C dX11_waitFrom_25 rfl ?_
        refine j_sub [] rfl ?_
        exact p_X11_waitFrom_31 C Q  0 S hE
    · refine j_sub [0, 1] rfl ?_
      exact p_X11_waitFrom_10 C Q  x0 x1 S hE
theorem c_X11_waitFrom {l : Launch} {D : va_G} {ad : Nat → Nat} {cy : Nat → ClassId} (hO : jOk (jMain D ad cy)) (x0 : Int32) (x1 : Int32) (x2 : Int32) (S : jS) {z : Int32 × jS} (hz : f_X11_waitFrom x0 x1 x2 S = some z) : Met l yX11_waitFrom (.code yX11_waitFrom cX11_waitFrom 4 (some .int) :: jT) { frames := 0, cells := 0, slots := 0, locals := 0 } (va_Pc [.int x0, .int x1, .int x2] (jInv (jMain D ad cy) S)) (jQ (jMain D ad cy) (some (.int z.1), z.2)) 0 0 (yA (jMain D ad cy)) :=
  jMet hO (by decide +kernel) rfl (Nat.le_of_ble_eq_true rfl) (fun X _ C Q => p_X11_waitFrom_e C Q x0 x1 x2 S hz)
theorem k_X11_209_X11_waitFrom {X : jX} {D : va_G} {ad : Nat → Nat} {cy : Nat → ClassId} {cc : ByteArray} {ret : Option FieldType} {nL fr lo pc : Nat} {lv : List (Nat × Value)} {st : List Value} {S : jS} {β : Type} {z : β} (C : jC X (jMain D ad cy) RX11 cc ret nL fr lo) {a0 : Int32} {a1 : Int32} {a2 : Int32} {E : Int32 → jS → Option β} (d : decode cc pc = .ok (.invokestatic 209, 3)) (hE : jcl (f_X11_waitFrom a0 a1 a2 S) E = some z) (hfr : 1 ≤ fr) (hlo : 23 ≤ lo) (hst : (st.map fun v => v.category).sum ≤ 8) (K : ∀ (v : Int32) (S1 : jS), E v S1 = some z → jJ X (jMain D ad cy) (pc + 3) lv (.int v :: st) S1) : jJ X (jMain D ad cy) pc lv (.int a2 :: .int a1 :: .int a0 :: st) S := by
  obtain ⟨v, h1, h2⟩ := jcl_some hE
  exact j_callS (n := 3) (As := [.int a0, .int a1, .int a2]) C (c_X11_waitFrom C.2.2.2.2.2.2.1 a0 a1 a2 S h1) tw_741 tw_742 tw_70 tw_743 (by decide +kernel) rfl hfr hlo hst rfl d (K _ _ h2)
set_option maxRecDepth 100000 in
theorem p_X11_next_10 {X : jX} {D : va_G} {ad : Nat → Nat} {cy : Nat → ClassId} (C : jC X (jMain D ad cy) RX11 cX11_next (some .int) 6 1 23) {z : Int32 × jS} (Q : jRet X (jMain D ad cy) (some (.int z.1), z.2))   (S : jS) (hE : f_X11_next_10   S = some z) : jJ X (jMain D ad cy) 10 [(0, .ref (ad 0))] [] S := by
  unfold f_X11_next_10 at hE
  refine j_aload_n C dX11_next_10 0 rfl ?_
  refine k_X11_74_X11_refuseBad C dX11_next_11 hE (Nat.le_of_ble_eq_true rfl) (Nat.le_of_ble_eq_true rfl) (Nat.le_of_ble_eq_true rfl) (fun v2 S1 hE => ?_)
  exact j_iret C Q dX11_next_14 hE
set_option maxRecDepth 100000 in
theorem p_X11_next_67 {X : jX} {D : va_G} {ad : Nat → Nat} {cy : Nat → ClassId} (C : jC X (jMain D ad cy) RX11 cX11_next (some .int) 6 1 23) {z : Int32 × jS} (Q : jRet X (jMain D ad cy) (some (.int z.1), z.2)) {g : Int32 → Int32 → Int32 → jS → Option (Int32 × jS)} (hg : ∀ (x1 : Int32) (x2 : Int32) (x3 : Int32) (S : jS), g x1 x2 x3 S = some z → jJ X (jMain D ad cy) 19 [(0, .ref (ad 0)), (1, .int x1), (2, .int x2), (3, .int x3)] [] S) {k73 : Int32 → jS → Option (Int32 × jS)} (hk73 : ∀ (x2 : Int32) (S : jS), k73 x2 S = some z → jJ X (jMain D ad cy) 73 [(2, .int x2)] [] S) (x1 : Int32) (x2 : Int32) (x3 : Int32) (S : jS) (hE : f_X11_next_67 g k73 x1 x2 x3 S = some z) : jJ X (jMain D ad cy) 67 [(0, .ref (ad 0)), (1, .int x1), (2, .int x2), (3, .int x3)] [] S := by
  unfold f_X11_next_67 at hE
  refine j_iinc (v := (x3 + 1)) (lv' := [(3, .int (x3 + 1)), (0, .ref (ad 0)), (1, .int x1), (2, .int x2)]) C dX11_next_67 3 rfl (congrArg (fun w => x3 + w) jc_ic_1) (by decide) rfl ?_
  refine j_goto (tgt := 19) C dX11_next_70 rfl ?_
  refine j_sub [1, 2, 3, 0] rfl ?_
  exact hg x1 x2 (x3 + 1) S hE
set_option maxRecDepth 100000 in
theorem p_X11_next_66 {X : jX} {D : va_G} {ad : Nat → Nat} {cy : Nat → ClassId} (C : jC X (jMain D ad cy) RX11 cX11_next (some .int) 6 1 23) {z : Int32 × jS} (Q : jRet X (jMain D ad cy) (some (.int z.1), z.2)) {g : Int32 → Int32 → Int32 → jS → Option (Int32 × jS)} (hg : ∀ (x1 : Int32) (x2 : Int32) (x3 : Int32) (S : jS), g x1 x2 x3 S = some z → jJ X (jMain D ad cy) 19 [(0, .ref (ad 0)), (1, .int x1), (2, .int x2), (3, .int x3)] [] S) {k73 : Int32 → jS → Option (Int32 × jS)} (hk73 : ∀ (x2 : Int32) (S : jS), k73 x2 S = some z → jJ X (jMain D ad cy) 73 [(2, .int x2)] [] S) (a0 : Int32) (x1 : Int32) (x3 : Int32) (S : jS) (hE : f_X11_next_66 g k73 a0 x1 x3 S = some z) : jJ X (jMain D ad cy) 66 [(0, .ref (ad 0)), (1, .int x1), (3, .int x3)] [.int a0] S := by
  unfold f_X11_next_66 at hE
  refine j_istore_n (i := 2) (lv' := [(2, .int a0), (0, .ref (ad 0)), (1, .int x1), (3, .int x3)]) C dX11_next_66 rfl (by decide) rfl ?_
  refine j_sub [1, 2, 0, 3] rfl ?_
  exact p_X11_next_67 C Q hg hk73 x1 a0 x3 S hE
set_option maxRecDepth 100000 in
theorem p_X11_next_19 {X : jX} {D : va_G} {ad : Nat → Nat} {cy : Nat → ClassId} (C : jC X (jMain D ad cy) RX11 cX11_next (some .int) 6 1 23) {z : Int32 × jS} (Q : jRet X (jMain D ad cy) (some (.int z.1), z.2)) {g : Int32 → Int32 → Int32 → jS → Option (Int32 × jS)} (hg : ∀ (x1 : Int32) (x2 : Int32) (x3 : Int32) (S : jS), g x1 x2 x3 S = some z → jJ X (jMain D ad cy) 19 [(0, .ref (ad 0)), (1, .int x1), (2, .int x2), (3, .int x3)] [] S) {k73 : Int32 → jS → Option (Int32 × jS)} (hk73 : ∀ (x2 : Int32) (S : jS), k73 x2 S = some z → jJ X (jMain D ad cy) 73 [(2, .int x2)] [] S) (x1 : Int32) (x2 : Int32) (x3 : Int32) (S : jS) (hE : f_X11_next_19 g k73 x1 x2 x3 S = some z) : jJ X (jMain D ad cy) 19 [(0, .ref (ad 0)), (1, .int x1), (2, .int x2), (3, .int x3)] [] S := by
  unfold f_X11_next_19 at hE
  refine j_iload_n C dX11_next_19 3 rfl ?_
  refine j_bipush (v := 8) C dX11_next_20 jc_bp_8 ?_
  refine j_icmp_ge (tgt := 73) C dX11_next_22 rfl hE (fun hE => ?_) (fun hE => ?_)
  · refine j_sub [2] rfl ?_
    exact hk73 x2 S hE
  · refine j_aload_n C dX11_next_25 0 rfl ?_
    refine g_X11_44_0 C dX11_next_26 ?_
    refine g_X11_96_21 C dX11_next_29 ?_
    refine j_iload_n C dX11_next_32 3 rfl ?_
    refine l_22 C dX11_next_33 hE (fun v1 hE => ?_)
    refine j_istore (lv' := [(4, .int v1), (0, .ref (ad 0)), (1, .int x1), (2, .int x2), (3, .int x3)]) C dX11_next_34 (by decide) rfl ?_
    refine j_iload C dX11_next_36 0 rfl ?_
    refine j_if_le (tgt := 67) C dX11_next_38 rfl hE (fun hE => ?_) (fun hE => ?_)
    · refine j_sub [1, 2, 3, 4] rfl ?_
      exact p_X11_next_67 C Q hg hk73 x1 x2 x3 S hE
    · refine j_iload_n C dX11_next_41 2 rfl ?_
      refine j_iload_n C dX11_next_42 4 rfl ?_
      refine j_iload C dX11_next_43 0 rfl ?_
      refine k_X11_209_X11_waitFrom C dX11_next_45 hE (Nat.le_of_ble_eq_true rfl) (Nat.le_of_ble_eq_true rfl) (Nat.le_of_ble_eq_true rfl) (fun v3 S2 hE => ?_)
      refine j_istore (lv' := [(5, .int v3), (4, .int v1), (0, .ref (ad 0)), (1, .int x1), (2, .int x2), (3, .int x3)]) C dX11_next_48 (by decide) rfl ?_
      refine j_iload_n C dX11_next_50 4 rfl ?_
      refine j_iconst (v := (-1)) C dX11_next_51 jc_ic_m1 ?_
      refine j_icmp_ne (tgt := 60) C dX11_next_52 rfl hE (fun hE => ?_) (fun hE => ?_)
      · refine j_iload_n C dX11_next_60 4 rfl ?_
        refine j_iload C dX11_next_61 0 rfl ?_
        refine j_mmin C tm_744 tm_666 tm_88 tm_667 dX11_next_63 (Nat.le_of_ble_eq_true rfl) (Nat.le_of_ble_eq_true rfl) ?_
        refine j_sub [2, 3, 5] rfl ?_
        exact p_X11_next_66 C Q hg hk73 (if v3 < x2 then v3 else x2) x1 x3 S2 hE
      · refine j_iload C dX11_next_55 0 rfl ?_
        refine j_goto (tgt := 66) C dX11_next_57 rfl ?_
        refine j_sub [2, 3, 5] rfl ?_
        exact p_X11_next_66 C Q hg hk73 v3 x1 x3 S2 hE
theorem q_X11_next_19 {X : jX} {D : va_G} {ad : Nat → Nat} {cy : Nat → ClassId} (C : jC X (jMain D ad cy) RX11 cX11_next (some .int) 6 1 23) {z : Int32 × jS} (Q : jRet X (jMain D ad cy) (some (.int z.1), z.2)) {k73 : Int32 → jS → Option (Int32 × jS)} (hk73 : ∀ (x2 : Int32) (S : jS), k73 x2 S = some z → jJ X (jMain D ad cy) 73 [(2, .int x2)] [] S) (x1 : Int32) (x2 : Int32) (x3 : Int32) (S : jS) (hE : lp_X11_next_19 k73 x1 x2 x3 S = some z) : jJ X (jMain D ad cy) 19 [(0, .ref (ad 0)), (1, .int x1), (2, .int x2), (3, .int x3)] [] S :=
  jloop_P (α := Int32 × Int32 × Int32 × jS) (B := (fun g q => f_X11_next_19 (fun x1 x2 x3 S => g (x1, x2, x3, S)) k73 q.1 q.2.1 q.2.2.1 q.2.2.2)) (P := fun q => jJ X (jMain D ad cy) 19 [(0, .ref (ad 0)), (1, .int q.1), (2, .int q.2.1), (3, .int q.2.2.1)] [] q.2.2.2) (fun g q hg h => p_X11_next_19 C Q (g := fun x1 x2 x3 S => g (x1, x2, x3, S)) (fun x1 x2 x3 S h => hg (x1, x2, x3, S) h) hk73 q.1 q.2.1 q.2.2.1 q.2.2.2 h) jN (x1, x2, x3, S) hE
set_option maxRecDepth 100000 in
theorem p_X11_next_73 {X : jX} {D : va_G} {ad : Nat → Nat} {cy : Nat → ClassId} (C : jC X (jMain D ad cy) RX11 cX11_next (some .int) 6 1 23) {z : Int32 × jS} (Q : jRet X (jMain D ad cy) (some (.int z.1), z.2))  (x2 : Int32) (S : jS) (hE : f_X11_next_73  x2 S = some z) : jJ X (jMain D ad cy) 73 [(2, .int x2)] [] S := by
  unfold f_X11_next_73 at hE
  refine j_iload_n C dX11_next_73 0 rfl ?_
  exact j_iret C Q dX11_next_74 hE
set_option maxRecDepth 100000 in
theorem p_X11_next_e {X : jX} {D : va_G} {ad : Nat → Nat} {cy : Nat → ClassId} (C : jC X (jMain D ad cy) RX11 cX11_next (some .int) 6 1 23) {z : Int32 × jS} (Q : jRet X (jMain D ad cy) (some (.int z.1), z.2))  (x1 : Int32) (S : jS) (hE : f_X11_next_e  x1 S = some z) : jJ X (jMain D ad cy) 0 [(0, .ref (ad 0)), (1, .int x1)] [] S := by
  unfold f_X11_next_e at hE
  refine j_iload_n C dX11_next_0 1 rfl ?_
  refine j_if_lt (tgt := 10) C dX11_next_1 rfl hE (fun hE => ?_) (fun hE => ?_)
  · refine j_sub [0] rfl ?_
    exact p_X11_next_10 C Q   S hE
  · refine j_iload_n C dX11_next_4 1 rfl ?_
    refine j_ldc (v := 99999) C dX11_next_5 tw_723 ?_
    refine j_icmp_le (tgt := 15) C dX11_next_7 rfl hE (fun hE => ?_) (fun hE => ?_)
    · refine j_iconst (v := (-1)) C dX11_next_15 jc_ic_m1 ?_
      refine j_istore_n (i := 2) (lv' := [(2, .int (-1)), (0, .ref (ad 0)), (1, .int x1)]) C dX11_next_16 rfl (by decide) rfl ?_
      refine j_iconst (v := 0) C dX11_next_17 jc_ic_0 ?_
      refine j_istore_n (i := 3) (lv' := [(3, .int 0), (2, .int (-1)), (0, .ref (ad 0)), (1, .int x1)]) C dX11_next_18 rfl (by decide) rfl ?_
      refine j_sub [2, 3, 1, 0] rfl ?_
      exact q_X11_next_19 C Q (p_X11_next_73 C Q ) x1 (-1) 0 S hE
    · refine j_sub [0] rfl ?_
      exact p_X11_next_10 C Q   S hE
theorem c_X11_next {l : Launch} {D : va_G} {ad : Nat → Nat} {cy : Nat → ClassId} (hO : jOk (jMain D ad cy)) (x1 : Int32) (S : jS) {z : Int32 × jS} (hz : f_X11_next x1 S = some z) : Met l yX11_next (.code yX11_next cX11_next 6 (some .int) :: jT) { frames := 1, cells := 0, slots := 0, locals := 23 } (va_Pc [.ref (ad 0), .int x1] (jInv (jMain D ad cy) S)) (jQ (jMain D ad cy) (some (.int z.1), z.2)) 0 0 (yA (jMain D ad cy)) :=
  jMet hO (by decide +kernel) rfl (Nat.le_of_ble_eq_true rfl) (fun X _ C Q => p_X11_next_e C Q x1 S hz)
set_option maxRecDepth 100000 in
theorem p_X12_reading_17 {X : jX} {D : va_G} {ad : Nat → Nat} {cy : Nat → ClassId} (C : jC X (jMain D ad cy) RX12 cX12_reading (some .int) 4 2 45) {z : Int32 × jS} (Q : jRet X (jMain D ad cy) (some (.int z.1), z.2))   (S : jS) (hE : f_X12_reading_17   S = some z) : jJ X (jMain D ad cy) 17 [(0, .ref (ad 41))] [] S := by
  unfold f_X12_reading_17 at hE
  refine j_aload_n C dX12_reading_17 0 rfl ?_
  refine j_bipush (v := (-2)) C dX12_reading_18 jc_bp_m2 ?_
  refine k_X12_87_X12_bad C dX12_reading_20 hE (Nat.le_of_ble_eq_true rfl) (Nat.le_of_ble_eq_true rfl) (Nat.le_of_ble_eq_true rfl) (fun v2 S1 hE => ?_)
  exact j_iret C Q dX12_reading_23 hE
set_option maxRecDepth 100000 in
theorem p_X12_reading_e {X : jX} {D : va_G} {ad : Nat → Nat} {cy : Nat → ClassId} (C : jC X (jMain D ad cy) RX12 cX12_reading (some .int) 4 2 45) {z : Int32 × jS} (Q : jRet X (jMain D ad cy) (some (.int z.1), z.2))  (x1 : Int32) (x2 : Int32) (S : jS) (hE : f_X12_reading_e  x1 x2 S = some z) : jJ X (jMain D ad cy) 0 [(0, .ref (ad 41)), (1, .int x1), (2, .int x2)] [] S := by
  unfold f_X12_reading_e at hE
  refine j_iload_n C dX12_reading_0 1 rfl ?_
  refine k_X12_131_X12_isNumber C dX12_reading_1 hE (Nat.le_of_ble_eq_true rfl) (Nat.le_of_ble_eq_true rfl) (Nat.le_of_ble_eq_true rfl) (fun v2 S1 hE => ?_)
  refine j_if_eq (tgt := 17) C dX12_reading_4 rfl hE (fun hE => ?_) (fun hE => ?_)
  · refine j_sub [0] rfl ?_
    exact p_X12_reading_17 C Q   S1 hE
  · refine j_iload_n C dX12_reading_7 2 rfl ?_
    refine j_i2l C dX12_reading_8 ?_
    refine j_lconst (v := 0) C dX12_reading_9 jc_lc_0 ?_
    refine j_lconst (v := 1) C dX12_reading_10 jc_lc_1 ?_
    refine k_X12_59_X12_in C dX12_reading_11 hE (Nat.le_of_ble_eq_true rfl) (Nat.le_of_ble_eq_true rfl) (Nat.le_of_ble_eq_true rfl) (fun v4 S3 hE => ?_)
    refine j_if_ne (tgt := 24) C dX12_reading_14 rfl hE (fun hE => ?_) (fun hE => ?_)
    · refine j_aload_n C dX12_reading_24 0 rfl ?_
      refine g_X12_7_41 C dX12_reading_25 ?_
      refine j_bipush (v := 10) C dX12_reading_28 jc_bp_10 ?_
      refine l_42 C dX12_reading_30 hE (fun v5 hE => ?_)
      refine j_bipush (v := 8) C dX12_reading_31 jc_bp_8 ?_
      refine j_icmp_ne (tgt := 41) C dX12_reading_33 rfl hE (fun hE => ?_) (fun hE => ?_)
      · refine j_bipush (v := 13) C dX12_reading_41 jc_bp_13 ?_
        refine j_iconst (v := 4) C dX12_reading_43 jc_ic_4 ?_
        refine j_aload_n C dX12_reading_44 0 rfl ?_
        refine g_X12_7_41 C dX12_reading_45 ?_
        refine j_bipush (v := 10) C dX12_reading_48 jc_bp_10 ?_
        refine l_42 C dX12_reading_50 hE (fun v6 hE => ?_)
        refine j_imul C dX12_reading_51 ?_
        refine j_iadd C dX12_reading_52 ?_
        refine j_istore_n (i := 3) (lv' := [(3, .int (13 + (4 * v6))), (0, .ref (ad 41)), (1, .int x1), (2, .int x2)]) C dX12_reading_53 rfl (by decide) rfl ?_
        refine j_aload_n C dX12_reading_54 1 rfl ?_
        refine g_X12_7_41 C dX12_reading_55 ?_
        refine j_iload_n C dX12_reading_58 0 rfl ?_
        refine j_iload_n C dX12_reading_59 2 rfl ?_
        refine s_42 C dX12_reading_60 hE (fun S7 hE => ?_)
        refine j_aload_n C dX12_reading_61 1 rfl ?_
        refine g_X12_7_41 C dX12_reading_62 ?_
        refine j_iload_n C dX12_reading_65 0 rfl ?_
        refine j_iconst (v := 1) C dX12_reading_66 jc_ic_1 ?_
        refine j_iadd C dX12_reading_67 ?_
        refine j_iload_n C dX12_reading_68 3 rfl ?_
        refine s_42 C dX12_reading_69 hE (fun S8 hE => ?_)
        refine j_aload_n C dX12_reading_70 1 rfl ?_
        refine g_X12_7_41 C dX12_reading_71 ?_
        refine j_iload_n C dX12_reading_74 0 rfl ?_
        refine j_iconst (v := 2) C dX12_reading_75 jc_ic_2 ?_
        refine j_iadd C dX12_reading_76 ?_
        refine j_aload_n C dX12_reading_77 1 rfl ?_
        refine g_X12_7_41 C dX12_reading_78 ?_
        refine j_bipush (v := 8) C dX12_reading_81 jc_bp_8 ?_
        refine l_42 C dX12_reading_83 hE (fun v9 hE => ?_)
        refine s_42 C dX12_reading_84 hE (fun S10 hE => ?_)
        refine j_aload_n C dX12_reading_85 1 rfl ?_
        refine g_X12_7_41 C dX12_reading_86 ?_
        refine j_iload_n C dX12_reading_89 0 rfl ?_
        refine j_iconst (v := 3) C dX12_reading_90 jc_ic_3 ?_
        refine j_iadd C dX12_reading_91 ?_
        refine j_aload_n C dX12_reading_92 1 rfl ?_
        refine g_X12_7_41 C dX12_reading_93 ?_
        refine j_bipush (v := 9) C dX12_reading_96 jc_bp_9 ?_
        refine l_42 C dX12_reading_98 hE (fun v11 hE => ?_)
        refine s_42 C dX12_reading_99 hE (fun S12 hE => ?_)
        refine j_aload_n C dX12_reading_100 1 rfl ?_
        refine g_X12_7_41 C dX12_reading_101 ?_
        refine j_bipush (v := 10) C dX12_reading_104 jc_bp_10 ?_
        refine j_dup2 C dX12_reading_106 rfl rfl ?_
        refine l_42 C dX12_reading_107 hE (fun v13 hE => ?_)
        refine j_iconst (v := 1) C dX12_reading_108 jc_ic_1 ?_
        refine j_iadd C dX12_reading_109 ?_
        refine s_42 C dX12_reading_110 hE (fun S14 hE => ?_)
        refine j_aload_n C dX12_reading_111 1 rfl ?_
        refine g_X12_7_41 C dX12_reading_112 ?_
        refine j_bipush (v := 10) C dX12_reading_115 jc_bp_10 ?_
        refine l_42 C dX12_reading_117 hE (fun v15 hE => ?_)
        exact j_iret C Q dX12_reading_118 hE
      · refine j_aload_n C dX12_reading_36 0 rfl ?_
        refine k_X12_186_X12_full C dX12_reading_37 hE (Nat.le_of_ble_eq_true rfl) (Nat.le_of_ble_eq_true rfl) (Nat.le_of_ble_eq_true rfl) (fun v17 S16 hE => ?_)
        exact j_iret C Q dX12_reading_40 hE
    · refine j_sub [0] rfl ?_
      exact p_X12_reading_17 C Q   S3 hE
theorem c_X12_reading {l : Launch} {D : va_G} {ad : Nat → Nat} {cy : Nat → ClassId} (hO : jOk (jMain D ad cy)) (x1 : Int32) (x2 : Int32) (S : jS) {z : Int32 × jS} (hz : f_X12_reading x1 x2 S = some z) : Met l yX12_reading (.code yX12_reading cX12_reading 4 (some .int) :: jT) { frames := 2, cells := 0, slots := 0, locals := 45 } (va_Pc [.ref (ad 41), .int x1, .int x2] (jInv (jMain D ad cy) S)) (jQ (jMain D ad cy) (some (.int z.1), z.2)) 0 0 (yA (jMain D ad cy)) :=
  jMet hO (by decide +kernel) rfl (Nat.le_of_ble_eq_true rfl) (fun X _ C Q => p_X12_reading_e C Q x1 x2 S hz)
set_option maxRecDepth 100000 in
theorem p_X10_addThree_r23_39 {X : jX} {D : va_G} {ad : Nat → Nat} {cy : Nat → ClassId} (C : jC X (jMain D ad cy) RX10 cX10_addThree (none) 6 0 0) {z : jS} (Q : jRet X (jMain D ad cy) (none, z))   (S : jS) (hE : f_X10_addThree_r23_39   S = some z) : jJ X (jMain D ad cy) 39 [] [] S := by
  unfold f_X10_addThree_r23_39 at hE
  exact j_vret C Q dX10_addThree_39 hE
set_option maxRecDepth 100000 in
theorem p_X10_addThree_r23_e {X : jX} {D : va_G} {ad : Nat → Nat} {cy : Nat → ClassId} (C : jC X (jMain D ad cy) RX10 cX10_addThree (none) 6 0 0) {z : jS} (Q : jRet X (jMain D ad cy) (none, z))  (x1 : Int32) (x2 : Int32) (x3 : Int32) (x4 : Int32) (S : jS) (hE : f_X10_addThree_r23_e  x1 x2 x3 x4 S = some z) : jJ X (jMain D ad cy) 0 [(0, .ref (ad 23)), (1, .int x1), (2, .int x2), (3, .int x3), (4, .int x4)] [] S := by
  unfold f_X10_addThree_r23_e at hE
  refine j_iconst (v := 3) C dX10_addThree_0 jc_ic_3 ?_
  refine j_iload_n C dX10_addThree_1 1 rfl ?_
  refine j_imul C dX10_addThree_2 ?_
  refine j_istore (lv' := [(5, .int (3 * x1)), (0, .ref (ad 23)), (1, .int x1), (2, .int x2), (3, .int x3), (4, .int x4)]) C dX10_addThree_3 (by decide) rfl ?_
  refine j_iload C dX10_addThree_5 0 rfl ?_
  refine j_if_lt (tgt := 39) C dX10_addThree_7 rfl hE (fun hE => ?_) (fun hE => ?_)
  · refine j_sub [] rfl ?_
    exact p_X10_addThree_r23_39 C Q   S hE
  · refine j_iload C dX10_addThree_10 0 rfl ?_
    refine j_iconst (v := 2) C dX10_addThree_12 jc_ic_2 ?_
    refine j_iadd C dX10_addThree_13 ?_
    refine j_aload_n C dX10_addThree_14 1 rfl ?_
    refine n_23 C dX10_addThree_15 ?_
    refine j_icmp_ge (tgt := 39) C dX10_addThree_16 rfl hE (fun hE => ?_) (fun hE => ?_)
    · refine j_sub [] rfl ?_
      exact p_X10_addThree_r23_39 C Q   S hE
    · refine j_aload_n C dX10_addThree_19 1 rfl ?_
      refine j_iload C dX10_addThree_20 0 rfl ?_
      refine j_iload_n C dX10_addThree_22 3 rfl ?_
      refine s_23 C dX10_addThree_23 hE (fun S1 hE => ?_)
      refine j_aload_n C dX10_addThree_24 1 rfl ?_
      refine j_iload C dX10_addThree_25 0 rfl ?_
      refine j_iconst (v := 1) C dX10_addThree_27 jc_ic_1 ?_
      refine j_iadd C dX10_addThree_28 ?_
      refine j_iload_n C dX10_addThree_29 4 rfl ?_
      refine s_23 C dX10_addThree_30 hE (fun S2 hE => ?_)
      refine j_aload_n C dX10_addThree_31 1 rfl ?_
      refine j_iload C dX10_addThree_32 0 rfl ?_
      refine j_iconst (v := 2) C dX10_addThree_34 jc_ic_2 ?_
      refine j_iadd C dX10_addThree_35 ?_
      refine j_iload C dX10_addThree_36 5 rfl ?_
      refine s_23 C dX10_addThree_38 hE (fun S3 hE => ?_)
      refine j_sub [] rfl ?_
      exact p_X10_addThree_r23_39 C Q   S3 hE
theorem c_X10_addThree_r23 {l : Launch} {D : va_G} {ad : Nat → Nat} {cy : Nat → ClassId} (hO : jOk (jMain D ad cy)) (x1 : Int32) (x2 : Int32) (x3 : Int32) (x4 : Int32) (S : jS) {z : jS} (hz : f_X10_addThree_r23 x1 x2 x3 x4 S = some z) : Met l yX10_addThree (.code yX10_addThree cX10_addThree 6 (none) :: jT) { frames := 0, cells := 0, slots := 0, locals := 0 } (va_Pc [.ref (ad 23), .int x1, .int x2, .int x3, .int x4] (jInv (jMain D ad cy) S)) (jQ (jMain D ad cy) (none, z)) 0 0 (yA (jMain D ad cy)) :=
  jMet hO (by decide +kernel) rfl (Nat.le_of_ble_eq_true rfl) (fun X _ C Q => p_X10_addThree_r23_e C Q x1 x2 x3 x4 S hz)
theorem k_X10_43_X10_addThree_r23 {X : jX} {D : va_G} {ad : Nat → Nat} {cy : Nat → ClassId} {cc : ByteArray} {ret : Option FieldType} {nL fr lo pc : Nat} {lv : List (Nat × Value)} {st : List Value} {S : jS} {β : Type} {z : β} (C : jC X (jMain D ad cy) RX10 cc ret nL fr lo) {a1 : Int32} {a2 : Int32} {a3 : Int32} {a4 : Int32} {E : jS → Option β} (d : decode cc pc = .ok (.invokestatic 43, 3)) (hE : jcv (f_X10_addThree_r23 a1 a2 a3 a4 S) E = some z) (hfr : 1 ≤ fr) (hlo : 25 ≤ lo) (hst : (st.map fun v => v.category).sum ≤ 8) (K : ∀ S1, E S1 = some z → jJ X (jMain D ad cy) (pc + 3) lv st S1) : jJ X (jMain D ad cy) pc lv (.int a4 :: .int a3 :: .int a2 :: .int a1 :: .ref (ad 23) :: st) S := by
  obtain ⟨v, h1, h2⟩ := jcv_some hE
  exact j_callS (n := 5) (As := [.ref (ad 23), .int a1, .int a2, .int a3, .int a4]) C (c_X10_addThree_r23 C.2.2.2.2.2.2.1 a1 a2 a3 a4 S h1) tw_753 tw_754 tw_81 tw_755 (by decide +kernel) rfl hfr hlo hst rfl d (K _ h2)
set_option maxRecDepth 100000 in
theorem p_X10_addReading_e {X : jX} {D : va_G} {ad : Nat → Nat} {cy : Nat → ClassId} (C : jC X (jMain D ad cy) RX10 cX10_addReading (none) 3 1 25) {z : jS} (Q : jRet X (jMain D ad cy) (none, z))  (x1 : Int32) (x2 : Int32) (S : jS) (hE : f_X10_addReading_e  x1 x2 S = some z) : jJ X (jMain D ad cy) 0 [(0, .ref (ad 21)), (1, .int x1), (2, .int x2)] [] S := by
  unfold f_X10_addReading_e at hE
  refine j_aload_n C dX10_addReading_0 0 rfl ?_
  refine g_X10_15_21 C dX10_addReading_1 ?_
  refine j_aload_n C dX10_addReading_4 0 rfl ?_
  refine g_X10_28_21 C dX10_addReading_5 ?_
  refine j_iload_n C dX10_addReading_8 1 rfl ?_
  refine j_iload_n C dX10_addReading_9 2 rfl ?_
  refine j_aload_n C dX10_addReading_10 0 rfl ?_
  refine g_X10_24_21 C dX10_addReading_11 ?_
  refine k_X10_43_X10_addThree_r23 C dX10_addReading_14 hE (Nat.le_of_ble_eq_true rfl) (Nat.le_of_ble_eq_true rfl) (Nat.le_of_ble_eq_true rfl) (fun S1 hE => ?_)
  refine j_aload_n C dX10_addReading_17 0 rfl ?_
  refine j_dup C dX10_addReading_18 rfl ?_
  refine g_X10_28_21 C dX10_addReading_19 ?_
  refine j_iconst (v := 1) C dX10_addReading_22 jc_ic_1 ?_
  refine j_iadd C dX10_addReading_23 ?_
  refine p_X10_28_21 C dX10_addReading_24 hE (fun S2 hE => ?_)
  exact j_vret C Q dX10_addReading_27 hE
theorem c_X10_addReading {l : Launch} {D : va_G} {ad : Nat → Nat} {cy : Nat → ClassId} (hO : jOk (jMain D ad cy)) (x1 : Int32) (x2 : Int32) (S : jS) {z : jS} (hz : f_X10_addReading x1 x2 S = some z) : Met l yX10_addReading (.code yX10_addReading cX10_addReading 3 (none) :: jT) { frames := 1, cells := 0, slots := 0, locals := 25 } (va_Pc [.ref (ad 21), .int x1, .int x2] (jInv (jMain D ad cy) S)) (jQ (jMain D ad cy) (none, z)) 0 0 (yA (jMain D ad cy)) :=
  jMet hO (by decide +kernel) rfl (Nat.le_of_ble_eq_true rfl) (fun X _ C Q => p_X10_addReading_e C Q x1 x2 S hz)
theorem k_X11_221_X10_addReading {X : jX} {D : va_G} {ad : Nat → Nat} {cy : Nat → ClassId} {cc : ByteArray} {ret : Option FieldType} {nL fr lo pc : Nat} {lv : List (Nat × Value)} {st : List Value} {S : jS} {β : Type} {z : β} (C : jC X (jMain D ad cy) RX11 cc ret nL fr lo) {a0 : Int32} {a1 : Int32} {E : jS → Option β} (d : decode cc pc = .ok (.invokevirtual 221, 3)) (hE : jcv (f_X10_addReading a0 a1 S) E = some z) (hfr : 2 ≤ fr) (hlo : 47 ≤ lo) (hst : (st.map fun v => v.category).sum ≤ 8) (K : ∀ S1, E S1 = some z → jJ X (jMain D ad cy) (pc + 3) lv st S1) : jJ X (jMain D ad cy) pc lv (.int a1 :: .int a0 :: .ref (ad 21) :: st) S := by
  obtain ⟨v, h1, h2⟩ := jcv_some hE
  exact j_callV (k := 21) (ci := 10) (T := TX10) (N := 8) (n := 2) (As := [.int a0, .int a1]) C (c_X10_addReading C.2.2.2.2.2.2.1 a0 a1 S h1) tw_749 tw_750 tw_751 tw_81 tw_752 (by decide +kernel) rfl (by decide : 21 < 56) rfl rfl hfr hlo hst rfl d (K _ h2)
set_option maxRecDepth 100000 in
theorem p_X11_reading_14 {X : jX} {D : va_G} {ad : Nat → Nat} {cy : Nat → ClassId} (C : jC X (jMain D ad cy) RX11 cX11_reading (some .int) 3 2 47) {z : Int32 × jS} (Q : jRet X (jMain D ad cy) (some (.int z.1), z.2))   (S : jS) (hE : f_X11_reading_14   S = some z) : jJ X (jMain D ad cy) 14 [(0, .ref (ad 0))] [] S := by
  unfold f_X11_reading_14 at hE
  refine j_aload_n C dX11_reading_14 0 rfl ?_
  refine k_X11_74_X11_refuseBad C dX11_reading_15 hE (Nat.le_of_ble_eq_true rfl) (Nat.le_of_ble_eq_true rfl) (Nat.le_of_ble_eq_true rfl) (fun v2 S1 hE => ?_)
  exact j_iret C Q dX11_reading_18 hE
set_option maxRecDepth 100000 in
theorem p_X11_reading_e {X : jX} {D : va_G} {ad : Nat → Nat} {cy : Nat → ClassId} (C : jC X (jMain D ad cy) RX11 cX11_reading (some .int) 3 2 47) {z : Int32 × jS} (Q : jRet X (jMain D ad cy) (some (.int z.1), z.2))  (x1 : Int32) (x2 : Int32) (S : jS) (hE : f_X11_reading_e  x1 x2 S = some z) : jJ X (jMain D ad cy) 0 [(0, .ref (ad 0)), (1, .int x1), (2, .int x2)] [] S := by
  unfold f_X11_reading_e at hE
  refine j_iload_n C dX11_reading_0 1 rfl ?_
  refine k_X11_153_X11_isNumber C dX11_reading_1 hE (Nat.le_of_ble_eq_true rfl) (Nat.le_of_ble_eq_true rfl) (Nat.le_of_ble_eq_true rfl) (fun v2 S1 hE => ?_)
  refine j_if_eq (tgt := 14) C dX11_reading_4 rfl hE (fun hE => ?_) (fun hE => ?_)
  · refine j_sub [0] rfl ?_
    exact p_X11_reading_14 C Q   S1 hE
  · refine j_iload_n C dX11_reading_7 2 rfl ?_
    refine k_X11_160_X11_isBit C dX11_reading_8 hE (Nat.le_of_ble_eq_true rfl) (Nat.le_of_ble_eq_true rfl) (Nat.le_of_ble_eq_true rfl) (fun v4 S3 hE => ?_)
    refine j_if_ne (tgt := 19) C dX11_reading_11 rfl hE (fun hE => ?_) (fun hE => ?_)
    · refine j_aload_n C dX11_reading_19 0 rfl ?_
      refine g_X11_44_0 C dX11_reading_20 ?_
      refine g_X11_218_21 C dX11_reading_23 ?_
      refine j_bipush (v := 8) C dX11_reading_26 jc_bp_8 ?_
      refine j_icmp_lt (tgt := 36) C dX11_reading_28 rfl hE (fun hE => ?_) (fun hE => ?_)
      · refine j_aload_n C dX11_reading_36 0 rfl ?_
        refine g_X11_44_0 C dX11_reading_37 ?_
        refine j_iload_n C dX11_reading_40 1 rfl ?_
        refine j_iload_n C dX11_reading_41 2 rfl ?_
        refine k_X11_221_X10_addReading C dX11_reading_42 hE (Nat.le_of_ble_eq_true rfl) (Nat.le_of_ble_eq_true rfl) (Nat.le_of_ble_eq_true rfl) (fun S5 hE => ?_)
        refine j_aload_n C dX11_reading_45 0 rfl ?_
        refine g_X11_44_0 C dX11_reading_46 ?_
        refine g_X11_218_21 C dX11_reading_49 ?_
        exact j_iret C Q dX11_reading_52 hE
      · refine j_aload_n C dX11_reading_31 0 rfl ?_
        refine k_X11_109_X11_refuseFull C dX11_reading_32 hE (Nat.le_of_ble_eq_true rfl) (Nat.le_of_ble_eq_true rfl) (Nat.le_of_ble_eq_true rfl) (fun v7 S6 hE => ?_)
        exact j_iret C Q dX11_reading_35 hE
    · refine j_sub [0] rfl ?_
      exact p_X11_reading_14 C Q   S3 hE
theorem c_X11_reading {l : Launch} {D : va_G} {ad : Nat → Nat} {cy : Nat → ClassId} (hO : jOk (jMain D ad cy)) (x1 : Int32) (x2 : Int32) (S : jS) {z : Int32 × jS} (hz : f_X11_reading x1 x2 S = some z) : Met l yX11_reading (.code yX11_reading cX11_reading 3 (some .int) :: jT) { frames := 2, cells := 0, slots := 0, locals := 47 } (va_Pc [.ref (ad 0), .int x1, .int x2] (jInv (jMain D ad cy) S)) (jQ (jMain D ad cy) (some (.int z.1), z.2)) 0 0 (yA (jMain D ad cy)) :=
  jMet hO (by decide +kernel) rfl (Nat.le_of_ble_eq_true rfl) (fun X _ C Q => p_X11_reading_e C Q x1 x2 S hz)
set_option maxRecDepth 100000 in
theorem p_X12_canBe_83 {X : jX} {D : va_G} {ad : Nat → Nat} {cy : Nat → ClassId} (C : jC X (jMain D ad cy) RX12 cX12_canBe (some .boolean) 5 2 48) {z : Int32 × jS} (Q : jRet X (jMain D ad cy) (some (.int z.1), z.2)) {g : Int32 → Int32 → Int32 → jS → Option (Int32 × jS)} (hg : ∀ (x1 : Int32) (x2 : Int32) (x3 : Int32) (S : jS), g x1 x2 x3 S = some z → jJ X (jMain D ad cy) 4 [(0, .ref (ad 41)), (1, .int x1), (2, .int x2), (3, .int x3)] [] S) {k90 : Int32 → jS → Option (Int32 × jS)} (hk90 : ∀ (x2 : Int32) (S : jS), k90 x2 S = some z → jJ X (jMain D ad cy) 90 [(2, .int x2)] [] S) (a0 : Int32) (x1 : Int32) (x3 : Int32) (S : jS) (hE : f_X12_canBe_83 g k90 a0 x1 x3 S = some z) : jJ X (jMain D ad cy) 83 [(0, .ref (ad 41)), (1, .int x1), (3, .int x3)] [.int a0] S := by
  unfold f_X12_canBe_83 at hE
  refine j_istore_n (i := 2) (lv' := [(2, .int a0), (0, .ref (ad 41)), (1, .int x1), (3, .int x3)]) C dX12_canBe_83 rfl (by decide) rfl ?_
  refine j_iinc (v := (x3 + 1)) (lv' := [(3, .int (x3 + 1)), (2, .int a0), (0, .ref (ad 41)), (1, .int x1)]) C dX12_canBe_84 3 rfl (congrArg (fun w => x3 + w) jc_ic_1) (by decide) rfl ?_
  refine j_goto (tgt := 4) C dX12_canBe_87 rfl ?_
  refine j_sub [2, 3, 1, 0] rfl ?_
  exact hg x1 a0 (x3 + 1) S hE
set_option maxRecDepth 100000 in
theorem p_X12_canBe_75 {X : jX} {D : va_G} {ad : Nat → Nat} {cy : Nat → ClassId} (C : jC X (jMain D ad cy) RX12 cX12_canBe (some .boolean) 5 2 48) {z : Int32 × jS} (Q : jRet X (jMain D ad cy) (some (.int z.1), z.2)) {g : Int32 → Int32 → Int32 → jS → Option (Int32 × jS)} (hg : ∀ (x1 : Int32) (x2 : Int32) (x3 : Int32) (S : jS), g x1 x2 x3 S = some z → jJ X (jMain D ad cy) 4 [(0, .ref (ad 41)), (1, .int x1), (2, .int x2), (3, .int x3)] [] S) {k90 : Int32 → jS → Option (Int32 × jS)} (hk90 : ∀ (x2 : Int32) (S : jS), k90 x2 S = some z → jJ X (jMain D ad cy) 90 [(2, .int x2)] [] S) (a0 : Int32) (a1 : Int32) (x1 : Int32) (x3 : Int32) (S : jS) (hE : f_X12_canBe_75 g k90 a0 a1 x1 x3 S = some z) : jJ X (jMain D ad cy) 75 [(0, .ref (ad 41)), (1, .int x1), (3, .int x3)] [.int a0, .int a1] S := by
  unfold f_X12_canBe_75 at hE
  refine j_icmp_ne (tgt := 82) C dX12_canBe_75 rfl hE (fun hE => ?_) (fun hE => ?_)
  · refine j_iconst (v := 0) C dX12_canBe_82 jc_ic_0 ?_
    exact p_X12_canBe_83 C Q hg hk90 0 x1 x3 S hE
  · refine j_iconst (v := 1) C dX12_canBe_78 jc_ic_1 ?_
    refine j_goto (tgt := 83) C dX12_canBe_79 rfl ?_
    exact p_X12_canBe_83 C Q hg hk90 1 x1 x3 S hE
set_option maxRecDepth 100000 in
theorem p_X12_canBe_4 {X : jX} {D : va_G} {ad : Nat → Nat} {cy : Nat → ClassId} (C : jC X (jMain D ad cy) RX12 cX12_canBe (some .boolean) 5 2 48) {z : Int32 × jS} (Q : jRet X (jMain D ad cy) (some (.int z.1), z.2)) {g : Int32 → Int32 → Int32 → jS → Option (Int32 × jS)} (hg : ∀ (x1 : Int32) (x2 : Int32) (x3 : Int32) (S : jS), g x1 x2 x3 S = some z → jJ X (jMain D ad cy) 4 [(0, .ref (ad 41)), (1, .int x1), (2, .int x2), (3, .int x3)] [] S) {k90 : Int32 → jS → Option (Int32 × jS)} (hk90 : ∀ (x2 : Int32) (S : jS), k90 x2 S = some z → jJ X (jMain D ad cy) 90 [(2, .int x2)] [] S) (x1 : Int32) (x2 : Int32) (x3 : Int32) (S : jS) (hE : f_X12_canBe_4 g k90 x1 x2 x3 S = some z) : jJ X (jMain D ad cy) 4 [(0, .ref (ad 41)), (1, .int x1), (2, .int x2), (3, .int x3)] [] S := by
  unfold f_X12_canBe_4 at hE
  refine j_iload_n C dX12_canBe_4 3 rfl ?_
  refine j_aload_n C dX12_canBe_5 0 rfl ?_
  refine g_X12_7_41 C dX12_canBe_6 ?_
  refine j_bipush (v := 10) C dX12_canBe_9 jc_bp_10 ?_
  refine l_42 C dX12_canBe_11 hE (fun v1 hE => ?_)
  refine j_icmp_ge (tgt := 90) C dX12_canBe_12 rfl hE (fun hE => ?_) (fun hE => ?_)
  · refine j_sub [2] rfl ?_
    exact hk90 x2 S hE
  · refine j_iload_n C dX12_canBe_15 2 rfl ?_
    refine j_if_eq (tgt := 90) C dX12_canBe_16 rfl hE (fun hE => ?_) (fun hE => ?_)
    · refine j_sub [2] rfl ?_
      exact hk90 x2 S hE
    · refine j_bipush (v := 13) C dX12_canBe_19 jc_bp_13 ?_
      refine j_iconst (v := 4) C dX12_canBe_21 jc_ic_4 ?_
      refine j_iload_n C dX12_canBe_22 3 rfl ?_
      refine j_imul C dX12_canBe_23 ?_
      refine j_iadd C dX12_canBe_24 ?_
      refine j_istore (lv' := [(4, .int (13 + (4 * x3))), (0, .ref (ad 41)), (1, .int x1), (2, .int x2), (3, .int x3)]) C dX12_canBe_25 (by decide) rfl ?_
      refine j_aload_n C dX12_canBe_27 1 rfl ?_
      refine j_aload_n C dX12_canBe_28 1 rfl ?_
      refine g_X12_7_41 C dX12_canBe_29 ?_
      refine j_iload C dX12_canBe_32 0 rfl ?_
      refine j_iconst (v := 2) C dX12_canBe_34 jc_ic_2 ?_
      refine j_iadd C dX12_canBe_35 ?_
      refine l_42 C dX12_canBe_36 hE (fun v2 hE => ?_)
      refine j_aload_n C dX12_canBe_37 1 rfl ?_
      refine g_X12_7_41 C dX12_canBe_38 ?_
      refine j_iload C dX12_canBe_41 0 rfl ?_
      refine j_iconst (v := 3) C dX12_canBe_43 jc_ic_3 ?_
      refine j_iadd C dX12_canBe_44 ?_
      refine l_42 C dX12_canBe_45 hE (fun v3 hE => ?_)
      refine j_iload_n C dX12_canBe_46 2 rfl ?_
      refine j_aload_n C dX12_canBe_47 1 rfl ?_
      refine g_X12_7_41 C dX12_canBe_48 ?_
      refine j_iload C dX12_canBe_51 0 rfl ?_
      refine l_42 C dX12_canBe_53 hE (fun v4 hE => ?_)
      refine k_X12_80_X12_mayBy C dX12_canBe_54 hE (Nat.le_of_ble_eq_true rfl) (Nat.le_of_ble_eq_true rfl) (Nat.le_of_ble_eq_true rfl) (fun v6 S5 hE => ?_)
      refine j_aload_n C dX12_canBe_57 1 rfl ?_
      refine g_X12_7_41 C dX12_canBe_58 ?_
      refine j_iload C dX12_canBe_61 0 rfl ?_
      refine j_iconst (v := 1) C dX12_canBe_63 jc_ic_1 ?_
      refine j_iadd C dX12_canBe_64 ?_
      refine l_42 C dX12_canBe_65 hE (fun v7 hE => ?_)
      refine j_iconst (v := 1) C dX12_canBe_66 jc_ic_1 ?_
      refine j_icmp_ne (tgt := 74) C dX12_canBe_67 rfl hE (fun hE => ?_) (fun hE => ?_)
      · refine j_iconst (v := 0) C dX12_canBe_74 jc_ic_0 ?_
        refine j_sub [1, 2, 4] rfl ?_
        exact p_X12_canBe_75 C Q hg hk90 0 v6 x1 x3 S5 hE
      · refine j_iconst (v := 1) C dX12_canBe_70 jc_ic_1 ?_
        refine j_goto (tgt := 75) C dX12_canBe_71 rfl ?_
        refine j_sub [1, 2, 4] rfl ?_
        exact p_X12_canBe_75 C Q hg hk90 1 v6 x1 x3 S5 hE
theorem q_X12_canBe_4 {X : jX} {D : va_G} {ad : Nat → Nat} {cy : Nat → ClassId} (C : jC X (jMain D ad cy) RX12 cX12_canBe (some .boolean) 5 2 48) {z : Int32 × jS} (Q : jRet X (jMain D ad cy) (some (.int z.1), z.2)) {k90 : Int32 → jS → Option (Int32 × jS)} (hk90 : ∀ (x2 : Int32) (S : jS), k90 x2 S = some z → jJ X (jMain D ad cy) 90 [(2, .int x2)] [] S) (x1 : Int32) (x2 : Int32) (x3 : Int32) (S : jS) (hE : lp_X12_canBe_4 k90 x1 x2 x3 S = some z) : jJ X (jMain D ad cy) 4 [(0, .ref (ad 41)), (1, .int x1), (2, .int x2), (3, .int x3)] [] S :=
  jloop_P (α := Int32 × Int32 × Int32 × jS) (B := (fun g q => f_X12_canBe_4 (fun x1 x2 x3 S => g (x1, x2, x3, S)) k90 q.1 q.2.1 q.2.2.1 q.2.2.2)) (P := fun q => jJ X (jMain D ad cy) 4 [(0, .ref (ad 41)), (1, .int q.1), (2, .int q.2.1), (3, .int q.2.2.1)] [] q.2.2.2) (fun g q hg h => p_X12_canBe_4 C Q (g := fun x1 x2 x3 S => g (x1, x2, x3, S)) (fun x1 x2 x3 S h => hg (x1, x2, x3, S) h) hk90 q.1 q.2.1 q.2.2.1 q.2.2.2 h) jN (x1, x2, x3, S) hE
set_option maxRecDepth 100000 in
theorem p_X12_canBe_90 {X : jX} {D : va_G} {ad : Nat → Nat} {cy : Nat → ClassId} (C : jC X (jMain D ad cy) RX12 cX12_canBe (some .boolean) 5 2 48) {z : Int32 × jS} (Q : jRet X (jMain D ad cy) (some (.int z.1), z.2))  (x2 : Int32) (S : jS) (hE : f_X12_canBe_90  x2 S = some z) : jJ X (jMain D ad cy) 90 [(2, .int x2)] [] S := by
  unfold f_X12_canBe_90 at hE
  refine j_iload_n C dX12_canBe_90 0 rfl ?_
  exact j_zret C Q dX12_canBe_91 hE
set_option maxRecDepth 100000 in
theorem p_X12_canBe_e {X : jX} {D : va_G} {ad : Nat → Nat} {cy : Nat → ClassId} (C : jC X (jMain D ad cy) RX12 cX12_canBe (some .boolean) 5 2 48) {z : Int32 × jS} (Q : jRet X (jMain D ad cy) (some (.int z.1), z.2))  (x1 : Int32) (S : jS) (hE : f_X12_canBe_e  x1 S = some z) : jJ X (jMain D ad cy) 0 [(0, .ref (ad 41)), (1, .int x1)] [] S := by
  unfold f_X12_canBe_e at hE
  refine j_iconst (v := 1) C dX12_canBe_0 jc_ic_1 ?_
  refine j_istore_n (i := 2) (lv' := [(2, .int 1), (0, .ref (ad 41)), (1, .int x1)]) C dX12_canBe_1 rfl (by decide) rfl ?_
  refine j_iconst (v := 0) C dX12_canBe_2 jc_ic_0 ?_
  refine j_istore_n (i := 3) (lv' := [(3, .int 0), (2, .int 1), (0, .ref (ad 41)), (1, .int x1)]) C dX12_canBe_3 rfl (by decide) rfl ?_
  refine j_sub [2, 3, 1, 0] rfl ?_
  exact q_X12_canBe_4 C Q (p_X12_canBe_90 C Q ) x1 1 0 S hE
theorem c_X12_canBe {l : Launch} {D : va_G} {ad : Nat → Nat} {cy : Nat → ClassId} (hO : jOk (jMain D ad cy)) (x1 : Int32) (S : jS) {z : Int32 × jS} (hz : f_X12_canBe x1 S = some z) : Met l yX12_canBe (.code yX12_canBe cX12_canBe 5 (some .boolean) :: jT) { frames := 2, cells := 0, slots := 0, locals := 48 } (va_Pc [.ref (ad 41), .int x1] (jInv (jMain D ad cy) S)) (jQ (jMain D ad cy) (some (.int z.1), z.2)) 0 0 (yA (jMain D ad cy)) :=
  jMet hO (by decide +kernel) rfl (Nat.le_of_ble_eq_true rfl) (fun X _ C Q => p_X12_canBe_e C Q x1 S hz)
theorem k_X12_195_X12_canBe {X : jX} {D : va_G} {ad : Nat → Nat} {cy : Nat → ClassId} {cc : ByteArray} {ret : Option FieldType} {nL fr lo pc : Nat} {lv : List (Nat × Value)} {st : List Value} {S : jS} {β : Type} {z : β} (C : jC X (jMain D ad cy) RX12 cc ret nL fr lo) {a0 : Int32} {E : Int32 → jS → Option β} (d : decode cc pc = .ok (.invokevirtual 195, 3)) (hE : jcl (f_X12_canBe a0 S) E = some z) (hfr : 3 ≤ fr) (hlo : 72 ≤ lo) (hst : (st.map fun v => v.category).sum ≤ 8) (K : ∀ (v : Int32) (S1 : jS), E v S1 = some z → jJ X (jMain D ad cy) (pc + 3) lv (.int v :: st) S1) : jJ X (jMain D ad cy) pc lv (.int a0 :: .ref (ad 41) :: st) S := by
  obtain ⟨v, h1, h2⟩ := jcl_some hE
  exact j_callV (k := 41) (ci := 12) (T := TX12) (N := 25) (n := 1) (As := [.int a0]) C (c_X12_canBe C.2.2.2.2.2.2.1 a0 S h1) tw_1164 tw_1166 tw_58 tw_82 tw_1167 (by decide +kernel) rfl (by decide : 41 < 56) rfl rfl hfr hlo hst rfl d (K _ _ h2)
set_option maxRecDepth 100000 in
theorem p_X12_layCan_77 {X : jX} {D : va_G} {ad : Nat → Nat} {cy : Nat → ClassId} (C : jC X (jMain D ad cy) RX12 cX12_layCan (none) 2 3 72) {z : jS} (Q : jRet X (jMain D ad cy) (none, z)) {g : Int32 → jS → Option (jS)} (hg : ∀ (x1 : Int32) (S : jS), g x1 S = some z → jJ X (jMain D ad cy) 12 [(0, .ref (ad 41)), (1, .int x1)] [] S) {k87 : jS → Option (jS)} (hk87 : ∀  (S : jS), k87  S = some z → jJ X (jMain D ad cy) 87 [] [] S) (a0 : Int32) (a1 : Int32) (x1 : Int32) (S : jS) (hE : f_X12_layCan_77 g k87 a0 a1 x1 S = some z) : jJ X (jMain D ad cy) 77 [(0, .ref (ad 41)), (1, .int x1)] [.int a0, .int a1, .ref (ad 41)] S := by
  unfold f_X12_layCan_77 at hE
  refine j_iadd C dX12_layCan_77 ?_
  refine p_X12_189_41 C dX12_layCan_78 hE (fun S1 hE => ?_)
  refine j_iinc (v := (x1 + 1)) (lv' := [(1, .int (x1 + 1)), (0, .ref (ad 41))]) C dX12_layCan_81 1 rfl (congrArg (fun w => x1 + w) jc_ic_1) (by decide) rfl ?_
  refine j_goto (tgt := 12) C dX12_layCan_84 rfl ?_
  refine j_sub [1, 0] rfl ?_
  exact hg (x1 + 1) S1 hE
set_option maxRecDepth 100000 in
theorem p_X12_layCan_55 {X : jX} {D : va_G} {ad : Nat → Nat} {cy : Nat → ClassId} (C : jC X (jMain D ad cy) RX12 cX12_layCan (none) 2 3 72) {z : jS} (Q : jRet X (jMain D ad cy) (none, z)) {g : Int32 → jS → Option (jS)} (hg : ∀ (x1 : Int32) (S : jS), g x1 S = some z → jJ X (jMain D ad cy) 12 [(0, .ref (ad 41)), (1, .int x1)] [] S) {k87 : jS → Option (jS)} (hk87 : ∀  (S : jS), k87  S = some z → jJ X (jMain D ad cy) 87 [] [] S) (a0 : Int32) (x1 : Int32) (S : jS) (hE : f_X12_layCan_55 g k87 a0 x1 S = some z) : jJ X (jMain D ad cy) 55 [(0, .ref (ad 41)), (1, .int x1)] [.int a0, .ref (ad 41)] S := by
  unfold f_X12_layCan_55 at hE
  refine p_X12_192_41 C dX12_layCan_55 hE (fun S1 hE => ?_)
  refine j_aload_n C dX12_layCan_58 0 rfl ?_
  refine j_dup C dX12_layCan_59 rfl ?_
  refine g_X12_189_41 C dX12_layCan_60 ?_
  refine j_aload_n C dX12_layCan_63 0 rfl ?_
  refine g_X12_45_41 C dX12_layCan_64 ?_
  refine j_iload_n C dX12_layCan_67 1 rfl ?_
  refine l_52 C dX12_layCan_68 hE (fun v2 hE => ?_)
  refine j_if_eq (tgt := 76) C dX12_layCan_69 rfl hE (fun hE => ?_) (fun hE => ?_)
  · refine j_iconst (v := 0) C dX12_layCan_76 jc_ic_0 ?_
    exact p_X12_layCan_77 C Q hg hk87 0 (S1.1 41 15) x1 S1 hE
  · refine j_iconst (v := 1) C dX12_layCan_72 jc_ic_1 ?_
    refine j_goto (tgt := 77) C dX12_layCan_73 rfl ?_
    exact p_X12_layCan_77 C Q hg hk87 1 (S1.1 41 15) x1 S1 hE
set_option maxRecDepth 100000 in
theorem p_X12_layCan_51 {X : jX} {D : va_G} {ad : Nat → Nat} {cy : Nat → ClassId} (C : jC X (jMain D ad cy) RX12 cX12_layCan (none) 2 3 72) {z : jS} (Q : jRet X (jMain D ad cy) (none, z)) {g : Int32 → jS → Option (jS)} (hg : ∀ (x1 : Int32) (S : jS), g x1 S = some z → jJ X (jMain D ad cy) 12 [(0, .ref (ad 41)), (1, .int x1)] [] S) {k87 : jS → Option (jS)} (hk87 : ∀  (S : jS), k87  S = some z → jJ X (jMain D ad cy) 87 [] [] S) (x1 : Int32) (S : jS) (hE : f_X12_layCan_51 g k87 x1 S = some z) : jJ X (jMain D ad cy) 51 [(0, .ref (ad 41)), (1, .int x1)] [.ref (ad 41)] S := by
  unfold f_X12_layCan_51 at hE
  refine j_aload_n C dX12_layCan_51 0 rfl ?_
  refine g_X12_192_41 C dX12_layCan_52 ?_
  exact p_X12_layCan_55 C Q hg hk87 (S.1 41 16) x1 S hE
set_option maxRecDepth 100000 in
theorem p_X12_layCan_12 {X : jX} {D : va_G} {ad : Nat → Nat} {cy : Nat → ClassId} (C : jC X (jMain D ad cy) RX12 cX12_layCan (none) 2 3 72) {z : jS} (Q : jRet X (jMain D ad cy) (none, z)) {g : Int32 → jS → Option (jS)} (hg : ∀ (x1 : Int32) (S : jS), g x1 S = some z → jJ X (jMain D ad cy) 12 [(0, .ref (ad 41)), (1, .int x1)] [] S) {k87 : jS → Option (jS)} (hk87 : ∀  (S : jS), k87  S = some z → jJ X (jMain D ad cy) 87 [] [] S) (x1 : Int32) (S : jS) (hE : f_X12_layCan_12 g k87 x1 S = some z) : jJ X (jMain D ad cy) 12 [(0, .ref (ad 41)), (1, .int x1)] [] S := by
  unfold f_X12_layCan_12 at hE
  refine j_iload_n C dX12_layCan_12 1 rfl ?_
  refine j_sipush (v := 300) C dX12_layCan_13 jc_sp_300 ?_
  refine j_icmp_gt (tgt := 87) C dX12_layCan_16 rfl hE (fun hE => ?_) (fun hE => ?_)
  · refine j_sub [] rfl ?_
    exact hk87  S hE
  · refine j_aload_n C dX12_layCan_19 0 rfl ?_
    refine g_X12_45_41 C dX12_layCan_20 ?_
    refine j_iload_n C dX12_layCan_23 1 rfl ?_
    refine j_aload_n C dX12_layCan_24 0 rfl ?_
    refine j_iload_n C dX12_layCan_25 1 rfl ?_
    refine k_X12_195_X12_canBe C dX12_layCan_26 hE (Nat.le_of_ble_eq_true rfl) (Nat.le_of_ble_eq_true rfl) (Nat.le_of_ble_eq_true rfl) (fun v2 S1 hE => ?_)
    refine s_52 C dX12_layCan_29 hE (fun S3 hE => ?_)
    refine j_aload_n C dX12_layCan_30 0 rfl ?_
    refine j_aload_n C dX12_layCan_31 0 rfl ?_
    refine g_X12_45_41 C dX12_layCan_32 ?_
    refine j_iload_n C dX12_layCan_35 1 rfl ?_
    refine l_52 C dX12_layCan_36 hE (fun v4 hE => ?_)
    refine j_if_eq (tgt := 51) C dX12_layCan_37 rfl hE (fun hE => ?_) (fun hE => ?_)
    · exact p_X12_layCan_51 C Q hg hk87 x1 S3 hE
    · refine j_aload_n C dX12_layCan_40 0 rfl ?_
      refine g_X12_189_41 C dX12_layCan_41 ?_
      refine j_if_ne (tgt := 51) C dX12_layCan_44 rfl hE (fun hE => ?_) (fun hE => ?_)
      · exact p_X12_layCan_51 C Q hg hk87 x1 S3 hE
      · refine j_iload_n C dX12_layCan_47 1 rfl ?_
        refine j_goto (tgt := 55) C dX12_layCan_48 rfl ?_
        exact p_X12_layCan_55 C Q hg hk87 x1 x1 S3 hE
theorem q_X12_layCan_12 {X : jX} {D : va_G} {ad : Nat → Nat} {cy : Nat → ClassId} (C : jC X (jMain D ad cy) RX12 cX12_layCan (none) 2 3 72) {z : jS} (Q : jRet X (jMain D ad cy) (none, z)) {k87 : jS → Option (jS)} (hk87 : ∀  (S : jS), k87  S = some z → jJ X (jMain D ad cy) 87 [] [] S) (x1 : Int32) (S : jS) (hE : lp_X12_layCan_12 k87 x1 S = some z) : jJ X (jMain D ad cy) 12 [(0, .ref (ad 41)), (1, .int x1)] [] S :=
  jloop_P (α := Int32 × jS) (B := (fun g q => f_X12_layCan_12 (fun x1 S => g (x1, S)) k87 q.1 q.2)) (P := fun q => jJ X (jMain D ad cy) 12 [(0, .ref (ad 41)), (1, .int q.1)] [] q.2) (fun g q hg h => p_X12_layCan_12 C Q (g := fun x1 S => g (x1, S)) (fun x1 S h => hg (x1, S) h) hk87 q.1 q.2 h) jN (x1, S) hE
set_option maxRecDepth 100000 in
theorem p_X12_layCan_87 {X : jX} {D : va_G} {ad : Nat → Nat} {cy : Nat → ClassId} (C : jC X (jMain D ad cy) RX12 cX12_layCan (none) 2 3 72) {z : jS} (Q : jRet X (jMain D ad cy) (none, z))   (S : jS) (hE : f_X12_layCan_87   S = some z) : jJ X (jMain D ad cy) 87 [] [] S := by
  unfold f_X12_layCan_87 at hE
  exact j_vret C Q dX12_layCan_87 hE
set_option maxRecDepth 100000 in
theorem p_X12_layCan_e {X : jX} {D : va_G} {ad : Nat → Nat} {cy : Nat → ClassId} (C : jC X (jMain D ad cy) RX12 cX12_layCan (none) 2 3 72) {z : jS} (Q : jRet X (jMain D ad cy) (none, z))   (S : jS) (hE : f_X12_layCan_e   S = some z) : jJ X (jMain D ad cy) 0 [(0, .ref (ad 41))] [] S := by
  unfold f_X12_layCan_e at hE
  refine j_aload_n C dX12_layCan_0 0 rfl ?_
  refine j_iconst (v := 0) C dX12_layCan_1 jc_ic_0 ?_
  refine p_X12_189_41 C dX12_layCan_2 hE (fun S1 hE => ?_)
  refine j_aload_n C dX12_layCan_5 0 rfl ?_
  refine j_iconst (v := (-1)) C dX12_layCan_6 jc_ic_m1 ?_
  refine p_X12_192_41 C dX12_layCan_7 hE (fun S2 hE => ?_)
  refine j_iconst (v := 1) C dX12_layCan_10 jc_ic_1 ?_
  refine j_istore_n (i := 1) (lv' := [(1, .int 1), (0, .ref (ad 41))]) C dX12_layCan_11 rfl (by decide) rfl ?_
  refine j_sub [1, 0] rfl ?_
  exact q_X12_layCan_12 C Q (p_X12_layCan_87 C Q ) 1 S2 hE
theorem c_X12_layCan {l : Launch} {D : va_G} {ad : Nat → Nat} {cy : Nat → ClassId} (hO : jOk (jMain D ad cy))  (S : jS) {z : jS} (hz : f_X12_layCan  S = some z) : Met l yX12_layCan (.code yX12_layCan cX12_layCan 2 (none) :: jT) { frames := 3, cells := 0, slots := 0, locals := 72 } (va_Pc [.ref (ad 41)] (jInv (jMain D ad cy) S)) (jQ (jMain D ad cy) (none, z)) 0 0 (yA (jMain D ad cy)) :=
  jMet hO (by decide +kernel) rfl (Nat.le_of_ble_eq_true rfl) (fun X _ C Q => p_X12_layCan_e C Q  S hz)
theorem k_X12_198_X12_layCan {X : jX} {D : va_G} {ad : Nat → Nat} {cy : Nat → ClassId} {cc : ByteArray} {ret : Option FieldType} {nL fr lo pc : Nat} {lv : List (Nat × Value)} {st : List Value} {S : jS} {β : Type} {z : β} (C : jC X (jMain D ad cy) RX12 cc ret nL fr lo)  {E : jS → Option β} (d : decode cc pc = .ok (.invokevirtual 198, 3)) (hE : jcv (f_X12_layCan  S) E = some z) (hfr : 4 ≤ fr) (hlo : 93 ≤ lo) (hst : (st.map fun v => v.category).sum ≤ 8) (K : ∀ S1, E S1 = some z → jJ X (jMain D ad cy) (pc + 3) lv st S1) : jJ X (jMain D ad cy) pc lv (.ref (ad 41) :: st) S := by
  obtain ⟨v, h1, h2⟩ := jcv_some hE
  exact j_callV (k := 41) (ci := 12) (T := TX12) (N := 25) (n := 0) (As := []) C (c_X12_layCan C.2.2.2.2.2.2.1  S h1) tw_1160 tw_1162 tw_57 tw_82 tw_1163 (by decide +kernel) rfl (by decide : 41 < 56) rfl rfl hfr hlo hst rfl d (K _ h2)
set_option maxRecDepth 100000 in
theorem p_X12_who_36 {X : jX} {D : va_G} {ad : Nat → Nat} {cy : Nat → ClassId} (C : jC X (jMain D ad cy) RX12 cX12_who (some .int) 2 4 93) {z : Int32 × jS} (Q : jRet X (jMain D ad cy) (some (.int z.1), z.2))  (a0 : Int32) (S : jS) (hE : f_X12_who_36  a0 S = some z) : jJ X (jMain D ad cy) 36 [] [.int a0] S := by
  unfold f_X12_who_36 at hE
  exact j_iret C Q dX12_who_36 hE
set_option maxRecDepth 100000 in
theorem p_X12_who_e {X : jX} {D : va_G} {ad : Nat → Nat} {cy : Nat → ClassId} (C : jC X (jMain D ad cy) RX12 cX12_who (some .int) 2 4 93) {z : Int32 × jS} (Q : jRet X (jMain D ad cy) (some (.int z.1), z.2))  (x1 : Int32) (S : jS) (hE : f_X12_who_e  x1 S = some z) : jJ X (jMain D ad cy) 0 [(0, .ref (ad 41)), (1, .int x1)] [] S := by
  unfold f_X12_who_e at hE
  refine j_iload_n C dX12_who_0 1 rfl ?_
  refine j_i2l C dX12_who_1 ?_
  refine j_lconst (v := 0) C dX12_who_2 jc_lc_0 ?_
  refine j_lconst (v := 1) C dX12_who_3 jc_lc_1 ?_
  refine k_X12_59_X12_in C dX12_who_4 hE (Nat.le_of_ble_eq_true rfl) (Nat.le_of_ble_eq_true rfl) (Nat.le_of_ble_eq_true rfl) (fun v2 S1 hE => ?_)
  refine j_if_ne (tgt := 17) C dX12_who_7 rfl hE (fun hE => ?_) (fun hE => ?_)
  · refine j_aload_n C dX12_who_17 0 rfl ?_
    refine k_X12_198_X12_layCan C dX12_who_18 hE (Nat.le_of_ble_eq_true rfl) (Nat.le_of_ble_eq_true rfl) (Nat.le_of_ble_eq_true rfl) (fun S3 hE => ?_)
    refine j_iload_n C dX12_who_21 1 rfl ?_
    refine j_if_ne (tgt := 32) C dX12_who_22 rfl hE (fun hE => ?_) (fun hE => ?_)
    · refine j_aload_n C dX12_who_32 0 rfl ?_
      refine g_X12_192_41 C dX12_who_33 ?_
      refine j_sub [] rfl ?_
      exact p_X12_who_36 C Q  (S3.1 41 16) S3 hE
    · refine j_aload_n C dX12_who_25 0 rfl ?_
      refine g_X12_189_41 C dX12_who_26 ?_
      refine j_goto (tgt := 36) C dX12_who_29 rfl ?_
      refine j_sub [] rfl ?_
      exact p_X12_who_36 C Q  (S3.1 41 15) S3 hE
  · refine j_aload_n C dX12_who_10 0 rfl ?_
    refine j_bipush (v := (-10)) C dX12_who_11 jc_bp_m10 ?_
    refine k_X12_87_X12_bad C dX12_who_13 hE (Nat.le_of_ble_eq_true rfl) (Nat.le_of_ble_eq_true rfl) (Nat.le_of_ble_eq_true rfl) (fun v5 S4 hE => ?_)
    exact j_iret C Q dX12_who_16 hE
theorem c_X12_who {l : Launch} {D : va_G} {ad : Nat → Nat} {cy : Nat → ClassId} (hO : jOk (jMain D ad cy)) (x1 : Int32) (S : jS) {z : Int32 × jS} (hz : f_X12_who x1 S = some z) : Met l yX12_who (.code yX12_who cX12_who 2 (some .int) :: jT) { frames := 4, cells := 0, slots := 0, locals := 93 } (va_Pc [.ref (ad 41), .int x1] (jInv (jMain D ad cy) S)) (jQ (jMain D ad cy) (some (.int z.1), z.2)) 0 0 (yA (jMain D ad cy)) :=
  jMet hO (by decide +kernel) rfl (Nat.le_of_ble_eq_true rfl) (fun X _ C Q => p_X12_who_e C Q x1 S hz)
set_option maxRecDepth 100000 in
theorem p_X11_agreesWithReadings_2 {X : jX} {D : va_G} {ad : Nat → Nat} {cy : Nat → ClassId} (C : jC X (jMain D ad cy) RX11 cX11_agreesWithReadings (some .boolean) 4 5 113) {z : Int32 × jS} (Q : jRet X (jMain D ad cy) (some (.int z.1), z.2)) {g : Int32 → Int32 → jS → Option (Int32 × jS)} (hg : ∀ (x1 : Int32) (x2 : Int32) (S : jS), g x1 x2 S = some z → jJ X (jMain D ad cy) 2 [(0, .ref (ad 0)), (1, .int x1), (2, .int x2)] [] S) {k72 : jS → Option (Int32 × jS)} (hk72 : ∀  (S : jS), k72  S = some z → jJ X (jMain D ad cy) 72 [] [] S) {k80 : jS → Option (Int32 × jS)} (hk80 : ∀  (S : jS), k80  S = some z → jJ X (jMain D ad cy) 80 [] [] S) (x1 : Int32) (x2 : Int32) (S : jS) (hE : f_X11_agreesWithReadings_2 g k72 k80 x1 x2 S = some z) : jJ X (jMain D ad cy) 2 [(0, .ref (ad 0)), (1, .int x1), (2, .int x2)] [] S := by
  unfold f_X11_agreesWithReadings_2 at hE
  refine j_iload_n C dX11_agreesWithReadings_2 2 rfl ?_
  refine j_aload_n C dX11_agreesWithReadings_3 0 rfl ?_
  refine g_X11_44_0 C dX11_agreesWithReadings_4 ?_
  refine g_X11_218_21 C dX11_agreesWithReadings_7 ?_
  refine j_icmp_ge (tgt := 80) C dX11_agreesWithReadings_10 rfl hE (fun hE => ?_) (fun hE => ?_)
  · refine j_sub [] rfl ?_
    exact hk80  S hE
  · refine j_iload_n C dX11_agreesWithReadings_13 2 rfl ?_
    refine j_bipush (v := 8) C dX11_agreesWithReadings_14 jc_bp_8 ?_
    refine j_icmp_ge (tgt := 80) C dX11_agreesWithReadings_16 rfl hE (fun hE => ?_) (fun hE => ?_)
    · refine j_sub [] rfl ?_
      exact hk80  S hE
    · refine j_aload_n C dX11_agreesWithReadings_19 0 rfl ?_
      refine g_X11_21_0 C dX11_agreesWithReadings_20 ?_
      refine j_aload_n C dX11_agreesWithReadings_23 0 rfl ?_
      refine g_X11_44_0 C dX11_agreesWithReadings_24 ?_
      refine g_X11_290_21 C dX11_agreesWithReadings_27 ?_
      refine j_iconst (v := 3) C dX11_agreesWithReadings_30 jc_ic_3 ?_
      refine j_iload_n C dX11_agreesWithReadings_31 2 rfl ?_
      refine j_imul C dX11_agreesWithReadings_32 ?_
      refine j_iconst (v := 2) C dX11_agreesWithReadings_33 jc_ic_2 ?_
      refine j_iadd C dX11_agreesWithReadings_34 ?_
      refine l_23 C dX11_agreesWithReadings_35 hE (fun v1 hE => ?_)
      refine j_iload_n C dX11_agreesWithReadings_36 1 rfl ?_
      refine j_aload_n C dX11_agreesWithReadings_37 0 rfl ?_
      refine g_X11_44_0 C dX11_agreesWithReadings_38 ?_
      refine g_X11_290_21 C dX11_agreesWithReadings_41 ?_
      refine j_iconst (v := 3) C dX11_agreesWithReadings_44 jc_ic_3 ?_
      refine j_iload_n C dX11_agreesWithReadings_45 2 rfl ?_
      refine j_imul C dX11_agreesWithReadings_46 ?_
      refine l_23 C dX11_agreesWithReadings_47 hE (fun v2 hE => ?_)
      refine k_X11_156_X2_allows C dX11_agreesWithReadings_48 hE (Nat.le_of_ble_eq_true rfl) (Nat.le_of_ble_eq_true rfl) (Nat.le_of_ble_eq_true rfl) (fun v4 S3 hE => ?_)
      refine j_istore_n (i := 3) (lv' := [(3, .int v4), (0, .ref (ad 0)), (1, .int x1), (2, .int x2)]) C dX11_agreesWithReadings_51 rfl (by decide) rfl ?_
      refine j_iload_n C dX11_agreesWithReadings_52 0 rfl ?_
      refine k_X11_139_X11_bit C dX11_agreesWithReadings_53 hE (Nat.le_of_ble_eq_true rfl) (Nat.le_of_ble_eq_true rfl) (Nat.le_of_ble_eq_true rfl) (fun v6 S5 hE => ?_)
      refine j_aload_n C dX11_agreesWithReadings_56 1 rfl ?_
      refine g_X11_44_0 C dX11_agreesWithReadings_57 ?_
      refine g_X11_290_21 C dX11_agreesWithReadings_60 ?_
      refine j_iconst (v := 3) C dX11_agreesWithReadings_63 jc_ic_3 ?_
      refine j_iload_n C dX11_agreesWithReadings_64 3 rfl ?_
      refine j_imul C dX11_agreesWithReadings_65 ?_
      refine j_iconst (v := 1) C dX11_agreesWithReadings_66 jc_ic_1 ?_
      refine j_iadd C dX11_agreesWithReadings_67 ?_
      refine l_23 C dX11_agreesWithReadings_68 hE (fun v7 hE => ?_)
      refine j_icmp_eq (tgt := 74) C dX11_agreesWithReadings_69 rfl hE (fun hE => ?_) (fun hE => ?_)
      · refine j_iinc (v := (x2 + 1)) (lv' := [(2, .int (x2 + 1)), (3, .int v4), (0, .ref (ad 0)), (1, .int x1)]) C dX11_agreesWithReadings_74 3 rfl (congrArg (fun w => x2 + w) jc_ic_1) (by decide) rfl ?_
        refine j_goto (tgt := 2) C dX11_agreesWithReadings_77 rfl ?_
        refine j_sub [2, 3, 0] rfl ?_
        exact hg x1 (x2 + 1) S5 hE
      · refine j_sub [] rfl ?_
        exact hk72  S5 hE
theorem q_X11_agreesWithReadings_2 {X : jX} {D : va_G} {ad : Nat → Nat} {cy : Nat → ClassId} (C : jC X (jMain D ad cy) RX11 cX11_agreesWithReadings (some .boolean) 4 5 113) {z : Int32 × jS} (Q : jRet X (jMain D ad cy) (some (.int z.1), z.2)) {k72 : jS → Option (Int32 × jS)} (hk72 : ∀  (S : jS), k72  S = some z → jJ X (jMain D ad cy) 72 [] [] S) {k80 : jS → Option (Int32 × jS)} (hk80 : ∀  (S : jS), k80  S = some z → jJ X (jMain D ad cy) 80 [] [] S) (x1 : Int32) (x2 : Int32) (S : jS) (hE : lp_X11_agreesWithReadings_2 k72 k80 x1 x2 S = some z) : jJ X (jMain D ad cy) 2 [(0, .ref (ad 0)), (1, .int x1), (2, .int x2)] [] S :=
  jloop_P (α := Int32 × Int32 × jS) (B := (fun g q => f_X11_agreesWithReadings_2 (fun x1 x2 S => g (x1, x2, S)) k72 k80 q.1 q.2.1 q.2.2)) (P := fun q => jJ X (jMain D ad cy) 2 [(0, .ref (ad 0)), (1, .int q.1), (2, .int q.2.1)] [] q.2.2) (fun g q hg h => p_X11_agreesWithReadings_2 C Q (g := fun x1 x2 S => g (x1, x2, S)) (fun x1 x2 S h => hg (x1, x2, S) h) hk72 hk80 q.1 q.2.1 q.2.2 h) jN (x1, x2, S) hE
set_option maxRecDepth 100000 in
theorem p_X11_agreesWithReadings_72 {X : jX} {D : va_G} {ad : Nat → Nat} {cy : Nat → ClassId} (C : jC X (jMain D ad cy) RX11 cX11_agreesWithReadings (some .boolean) 4 5 113) {z : Int32 × jS} (Q : jRet X (jMain D ad cy) (some (.int z.1), z.2))   (S : jS) (hE : f_X11_agreesWithReadings_72   S = some z) : jJ X (jMain D ad cy) 72 [] [] S := by
  unfold f_X11_agreesWithReadings_72 at hE
  refine j_iconst (v := 0) C dX11_agreesWithReadings_72 jc_ic_0 ?_
  exact j_zret C Q dX11_agreesWithReadings_73 hE
set_option maxRecDepth 100000 in
theorem p_X11_agreesWithReadings_80 {X : jX} {D : va_G} {ad : Nat → Nat} {cy : Nat → ClassId} (C : jC X (jMain D ad cy) RX11 cX11_agreesWithReadings (some .boolean) 4 5 113) {z : Int32 × jS} (Q : jRet X (jMain D ad cy) (some (.int z.1), z.2))   (S : jS) (hE : f_X11_agreesWithReadings_80   S = some z) : jJ X (jMain D ad cy) 80 [] [] S := by
  unfold f_X11_agreesWithReadings_80 at hE
  refine j_iconst (v := 1) C dX11_agreesWithReadings_80 jc_ic_1 ?_
  exact j_zret C Q dX11_agreesWithReadings_81 hE
set_option maxRecDepth 100000 in
theorem p_X11_agreesWithReadings_e {X : jX} {D : va_G} {ad : Nat → Nat} {cy : Nat → ClassId} (C : jC X (jMain D ad cy) RX11 cX11_agreesWithReadings (some .boolean) 4 5 113) {z : Int32 × jS} (Q : jRet X (jMain D ad cy) (some (.int z.1), z.2))  (x1 : Int32) (S : jS) (hE : f_X11_agreesWithReadings_e  x1 S = some z) : jJ X (jMain D ad cy) 0 [(0, .ref (ad 0)), (1, .int x1)] [] S := by
  unfold f_X11_agreesWithReadings_e at hE
  refine j_iconst (v := 0) C dX11_agreesWithReadings_0 jc_ic_0 ?_
  refine j_istore_n (i := 2) (lv' := [(2, .int 0), (0, .ref (ad 0)), (1, .int x1)]) C dX11_agreesWithReadings_1 rfl (by decide) rfl ?_
  refine j_sub [1, 2, 0] rfl ?_
  exact q_X11_agreesWithReadings_2 C Q (p_X11_agreesWithReadings_72 C Q ) (p_X11_agreesWithReadings_80 C Q ) x1 0 S hE
theorem c_X11_agreesWithReadings {l : Launch} {D : va_G} {ad : Nat → Nat} {cy : Nat → ClassId} (hO : jOk (jMain D ad cy)) (x1 : Int32) (S : jS) {z : Int32 × jS} (hz : f_X11_agreesWithReadings x1 S = some z) : Met l yX11_agreesWithReadings (.code yX11_agreesWithReadings cX11_agreesWithReadings 4 (some .boolean) :: jT) { frames := 5, cells := 0, slots := 0, locals := 113 } (va_Pc [.ref (ad 0), .int x1] (jInv (jMain D ad cy) S)) (jQ (jMain D ad cy) (some (.int z.1), z.2)) 0 0 (yA (jMain D ad cy)) :=
  jMet hO (by decide +kernel) rfl (Nat.le_of_ble_eq_true rfl) (fun X _ C Q => p_X11_agreesWithReadings_e C Q x1 S hz)
theorem k_X11_306_X11_agreesWithReadings {X : jX} {D : va_G} {ad : Nat → Nat} {cy : Nat → ClassId} {cc : ByteArray} {ret : Option FieldType} {nL fr lo pc : Nat} {lv : List (Nat × Value)} {st : List Value} {S : jS} {β : Type} {z : β} (C : jC X (jMain D ad cy) RX11 cc ret nL fr lo) {a0 : Int32} {E : Int32 → jS → Option β} (d : decode cc pc = .ok (.invokevirtual 306, 3)) (hE : jcl (f_X11_agreesWithReadings a0 S) E = some z) (hfr : 6 ≤ fr) (hlo : 136 ≤ lo) (hst : (st.map fun v => v.category).sum ≤ 8) (K : ∀ (v : Int32) (S1 : jS), E v S1 = some z → jJ X (jMain D ad cy) (pc + 3) lv (.int v :: st) S1) : jJ X (jMain D ad cy) pc lv (.int a0 :: .ref (ad 0) :: st) S := by
  obtain ⟨v, h1, h2⟩ := jcl_some hE
  exact j_callV (k := 0) (ci := 11) (T := TX11) (N := 16) (n := 1) (As := [.int a0]) C (c_X11_agreesWithReadings C.2.2.2.2.2.2.1 a0 S h1) tw_764 tw_766 tw_26 tw_70 tw_767 (by decide +kernel) rfl (by decide : 0 < 56) rfl rfl hfr hlo hst rfl d (K _ _ h2)
set_option maxRecDepth 100000 in
theorem p_X11_gatherFits_38 {X : jX} {D : va_G} {ad : Nat → Nat} {cy : Nat → ClassId} (C : jC X (jMain D ad cy) RX11 cX11_gatherFits (some .int) 3 6 136) {z : Int32 × jS} (Q : jRet X (jMain D ad cy) (some (.int z.1), z.2)) {g : Int32 → Int32 → jS → Option (Int32 × jS)} (hg : ∀ (x1 : Int32) (x2 : Int32) (S : jS), g x1 x2 S = some z → jJ X (jMain D ad cy) 4 [(0, .ref (ad 0)), (1, .int x1), (2, .int x2)] [] S) {k44 : Int32 → jS → Option (Int32 × jS)} (hk44 : ∀ (x1 : Int32) (S : jS), k44 x1 S = some z → jJ X (jMain D ad cy) 44 [(1, .int x1)] [] S) (x1 : Int32) (x2 : Int32) (S : jS) (hE : f_X11_gatherFits_38 g k44 x1 x2 S = some z) : jJ X (jMain D ad cy) 38 [(0, .ref (ad 0)), (1, .int x1), (2, .int x2)] [] S := by
  unfold f_X11_gatherFits_38 at hE
  refine j_iinc (v := (x2 + 1)) (lv' := [(2, .int (x2 + 1)), (0, .ref (ad 0)), (1, .int x1)]) C dX11_gatherFits_38 2 rfl (congrArg (fun w => x2 + w) jc_ic_1) (by decide) rfl ?_
  refine j_goto (tgt := 4) C dX11_gatherFits_41 rfl ?_
  refine j_sub [1, 2, 0] rfl ?_
  exact hg x1 (x2 + 1) S hE
set_option maxRecDepth 100000 in
theorem p_X11_gatherFits_4 {X : jX} {D : va_G} {ad : Nat → Nat} {cy : Nat → ClassId} (C : jC X (jMain D ad cy) RX11 cX11_gatherFits (some .int) 3 6 136) {z : Int32 × jS} (Q : jRet X (jMain D ad cy) (some (.int z.1), z.2)) {g : Int32 → Int32 → jS → Option (Int32 × jS)} (hg : ∀ (x1 : Int32) (x2 : Int32) (S : jS), g x1 x2 S = some z → jJ X (jMain D ad cy) 4 [(0, .ref (ad 0)), (1, .int x1), (2, .int x2)] [] S) {k44 : Int32 → jS → Option (Int32 × jS)} (hk44 : ∀ (x1 : Int32) (S : jS), k44 x1 S = some z → jJ X (jMain D ad cy) 44 [(1, .int x1)] [] S) (x1 : Int32) (x2 : Int32) (S : jS) (hE : f_X11_gatherFits_4 g k44 x1 x2 S = some z) : jJ X (jMain D ad cy) 4 [(0, .ref (ad 0)), (1, .int x1), (2, .int x2)] [] S := by
  unfold f_X11_gatherFits_4 at hE
  refine j_iload_n C dX11_gatherFits_4 2 rfl ?_
  refine j_sipush (v := 300) C dX11_gatherFits_5 jc_sp_300 ?_
  refine j_icmp_gt (tgt := 44) C dX11_gatherFits_8 rfl hE (fun hE => ?_) (fun hE => ?_)
  · refine j_sub [1] rfl ?_
    exact hk44 x1 S hE
  · refine j_aload_n C dX11_gatherFits_11 0 rfl ?_
    refine j_iload_n C dX11_gatherFits_12 2 rfl ?_
    refine k_X11_306_X11_agreesWithReadings C dX11_gatherFits_13 hE (Nat.le_of_ble_eq_true rfl) (Nat.le_of_ble_eq_true rfl) (Nat.le_of_ble_eq_true rfl) (fun v2 S1 hE => ?_)
    refine j_if_eq (tgt := 38) C dX11_gatherFits_16 rfl hE (fun hE => ?_) (fun hE => ?_)
    · exact p_X11_gatherFits_38 C Q hg hk44 x1 x2 S1 hE
    · refine j_iload_n C dX11_gatherFits_19 1 rfl ?_
      refine j_aload_n C dX11_gatherFits_20 0 rfl ?_
      refine g_X11_60_0 C dX11_gatherFits_21 ?_
      refine n_39 C dX11_gatherFits_24 ?_
      refine j_icmp_ge (tgt := 38) C dX11_gatherFits_25 rfl hE (fun hE => ?_) (fun hE => ?_)
      · exact p_X11_gatherFits_38 C Q hg hk44 x1 x2 S1 hE
      · refine j_aload_n C dX11_gatherFits_28 0 rfl ?_
        refine g_X11_60_0 C dX11_gatherFits_29 ?_
        refine j_iload_n C dX11_gatherFits_32 1 rfl ?_
        refine j_iload_n C dX11_gatherFits_33 2 rfl ?_
        refine s_39 C dX11_gatherFits_34 hE (fun S3 hE => ?_)
        refine j_iinc (v := (x1 + 1)) (lv' := [(1, .int (x1 + 1)), (0, .ref (ad 0)), (2, .int x2)]) C dX11_gatherFits_35 1 rfl (congrArg (fun w => x1 + w) jc_ic_1) (by decide) rfl ?_
        refine j_sub [1, 0, 2] rfl ?_
        exact p_X11_gatherFits_38 C Q hg hk44 (x1 + 1) x2 S3 hE
theorem q_X11_gatherFits_4 {X : jX} {D : va_G} {ad : Nat → Nat} {cy : Nat → ClassId} (C : jC X (jMain D ad cy) RX11 cX11_gatherFits (some .int) 3 6 136) {z : Int32 × jS} (Q : jRet X (jMain D ad cy) (some (.int z.1), z.2)) {k44 : Int32 → jS → Option (Int32 × jS)} (hk44 : ∀ (x1 : Int32) (S : jS), k44 x1 S = some z → jJ X (jMain D ad cy) 44 [(1, .int x1)] [] S) (x1 : Int32) (x2 : Int32) (S : jS) (hE : lp_X11_gatherFits_4 k44 x1 x2 S = some z) : jJ X (jMain D ad cy) 4 [(0, .ref (ad 0)), (1, .int x1), (2, .int x2)] [] S :=
  jloop_P (α := Int32 × Int32 × jS) (B := (fun g q => f_X11_gatherFits_4 (fun x1 x2 S => g (x1, x2, S)) k44 q.1 q.2.1 q.2.2)) (P := fun q => jJ X (jMain D ad cy) 4 [(0, .ref (ad 0)), (1, .int q.1), (2, .int q.2.1)] [] q.2.2) (fun g q hg h => p_X11_gatherFits_4 C Q (g := fun x1 x2 S => g (x1, x2, S)) (fun x1 x2 S h => hg (x1, x2, S) h) hk44 q.1 q.2.1 q.2.2 h) jN (x1, x2, S) hE
set_option maxRecDepth 100000 in
theorem p_X11_gatherFits_44 {X : jX} {D : va_G} {ad : Nat → Nat} {cy : Nat → ClassId} (C : jC X (jMain D ad cy) RX11 cX11_gatherFits (some .int) 3 6 136) {z : Int32 × jS} (Q : jRet X (jMain D ad cy) (some (.int z.1), z.2))  (x1 : Int32) (S : jS) (hE : f_X11_gatherFits_44  x1 S = some z) : jJ X (jMain D ad cy) 44 [(1, .int x1)] [] S := by
  unfold f_X11_gatherFits_44 at hE
  refine j_iload_n C dX11_gatherFits_44 0 rfl ?_
  exact j_iret C Q dX11_gatherFits_45 hE
set_option maxRecDepth 100000 in
theorem p_X11_gatherFits_e {X : jX} {D : va_G} {ad : Nat → Nat} {cy : Nat → ClassId} (C : jC X (jMain D ad cy) RX11 cX11_gatherFits (some .int) 3 6 136) {z : Int32 × jS} (Q : jRet X (jMain D ad cy) (some (.int z.1), z.2))   (S : jS) (hE : f_X11_gatherFits_e   S = some z) : jJ X (jMain D ad cy) 0 [(0, .ref (ad 0))] [] S := by
  unfold f_X11_gatherFits_e at hE
  refine j_iconst (v := 0) C dX11_gatherFits_0 jc_ic_0 ?_
  refine j_istore_n (i := 1) (lv' := [(1, .int 0), (0, .ref (ad 0))]) C dX11_gatherFits_1 rfl (by decide) rfl ?_
  refine j_iconst (v := 1) C dX11_gatherFits_2 jc_ic_1 ?_
  refine j_istore_n (i := 2) (lv' := [(2, .int 1), (1, .int 0), (0, .ref (ad 0))]) C dX11_gatherFits_3 rfl (by decide) rfl ?_
  refine j_sub [2, 1, 0] rfl ?_
  exact q_X11_gatherFits_4 C Q (p_X11_gatherFits_44 C Q ) 0 1 S hE
theorem c_X11_gatherFits {l : Launch} {D : va_G} {ad : Nat → Nat} {cy : Nat → ClassId} (hO : jOk (jMain D ad cy))  (S : jS) {z : Int32 × jS} (hz : f_X11_gatherFits  S = some z) : Met l yX11_gatherFits (.code yX11_gatherFits cX11_gatherFits 3 (some .int) :: jT) { frames := 6, cells := 0, slots := 0, locals := 136 } (va_Pc [.ref (ad 0)] (jInv (jMain D ad cy) S)) (jQ (jMain D ad cy) (some (.int z.1), z.2)) 0 0 (yA (jMain D ad cy)) :=
  jMet hO (by decide +kernel) rfl (Nat.le_of_ble_eq_true rfl) (fun X _ C Q => p_X11_gatherFits_e C Q  S hz)
theorem k_X11_225_X11_gatherFits {X : jX} {D : va_G} {ad : Nat → Nat} {cy : Nat → ClassId} {cc : ByteArray} {ret : Option FieldType} {nL fr lo pc : Nat} {lv : List (Nat × Value)} {st : List Value} {S : jS} {β : Type} {z : β} (C : jC X (jMain D ad cy) RX11 cc ret nL fr lo)  {E : Int32 → jS → Option β} (d : decode cc pc = .ok (.invokevirtual 225, 3)) (hE : jcl (f_X11_gatherFits  S) E = some z) (hfr : 7 ≤ fr) (hlo : 158 ≤ lo) (hst : (st.map fun v => v.category).sum ≤ 8) (K : ∀ (v : Int32) (S1 : jS), E v S1 = some z → jJ X (jMain D ad cy) (pc + 3) lv (.int v :: st) S1) : jJ X (jMain D ad cy) pc lv (.ref (ad 0) :: st) S := by
  obtain ⟨v, h1, h2⟩ := jcl_some hE
  exact j_callV (k := 0) (ci := 11) (T := TX11) (N := 16) (n := 0) (As := []) C (c_X11_gatherFits C.2.2.2.2.2.2.1  S h1) tw_760 tw_762 tw_25 tw_70 tw_763 (by decide +kernel) rfl (by decide : 0 < 56) rfl rfl hfr hlo hst rfl d (K _ _ h2)
set_option maxRecDepth 100000 in
theorem p_X11_who_37 {X : jX} {D : va_G} {ad : Nat → Nat} {cy : Nat → ClassId} (C : jC X (jMain D ad cy) RX11 cX11_who (some .int) 3 7 158) {z : Int32 × jS} (Q : jRet X (jMain D ad cy) (some (.int z.1), z.2))  (a0 : Int32) (S : jS) (hE : f_X11_who_37  a0 S = some z) : jJ X (jMain D ad cy) 37 [] [.int a0] S := by
  unfold f_X11_who_37 at hE
  exact j_iret C Q dX11_who_37 hE
set_option maxRecDepth 100000 in
theorem p_X11_who_e {X : jX} {D : va_G} {ad : Nat → Nat} {cy : Nat → ClassId} (C : jC X (jMain D ad cy) RX11 cX11_who (some .int) 3 7 158) {z : Int32 × jS} (Q : jRet X (jMain D ad cy) (some (.int z.1), z.2))  (x1 : Int32) (S : jS) (hE : f_X11_who_e  x1 S = some z) : jJ X (jMain D ad cy) 0 [(0, .ref (ad 0)), (1, .int x1)] [] S := by
  unfold f_X11_who_e at hE
  refine j_iload_n C dX11_who_0 1 rfl ?_
  refine k_X11_160_X11_isBit C dX11_who_1 hE (Nat.le_of_ble_eq_true rfl) (Nat.le_of_ble_eq_true rfl) (Nat.le_of_ble_eq_true rfl) (fun v2 S1 hE => ?_)
  refine j_if_ne (tgt := 12) C dX11_who_4 rfl hE (fun hE => ?_) (fun hE => ?_)
  · refine j_aload_n C dX11_who_12 0 rfl ?_
    refine k_X11_225_X11_gatherFits C dX11_who_13 hE (Nat.le_of_ble_eq_true rfl) (Nat.le_of_ble_eq_true rfl) (Nat.le_of_ble_eq_true rfl) (fun v4 S3 hE => ?_)
    refine j_istore_n (i := 2) (lv' := [(2, .int v4), (0, .ref (ad 0)), (1, .int x1)]) C dX11_who_16 rfl (by decide) rfl ?_
    refine j_iload_n C dX11_who_17 2 rfl ?_
    refine j_if_ne (tgt := 23) C dX11_who_18 rfl hE (fun hE => ?_) (fun hE => ?_)
    · refine j_iload_n C dX11_who_23 0 rfl ?_
      refine j_if_ne (tgt := 31) C dX11_who_24 rfl hE (fun hE => ?_) (fun hE => ?_)
      · refine j_aload_n C dX11_who_31 1 rfl ?_
        refine g_X11_60_0 C dX11_who_32 ?_
        refine j_iconst (v := 0) C dX11_who_35 jc_ic_0 ?_
        refine l_39 C dX11_who_36 hE (fun v5 hE => ?_)
        refine j_sub [] rfl ?_
        exact p_X11_who_37 C Q  v5 S3 hE
      · refine j_iconst (v := (-1)) C dX11_who_27 jc_ic_m1 ?_
        refine j_goto (tgt := 37) C dX11_who_28 rfl ?_
        refine j_sub [] rfl ?_
        exact p_X11_who_37 C Q  (-1) S3 hE
    · refine j_iload_n C dX11_who_21 0 rfl ?_
      exact j_iret C Q dX11_who_22 hE
  · refine j_aload_n C dX11_who_7 0 rfl ?_
    refine k_X11_171_X11_refuseBadApart C dX11_who_8 hE (Nat.le_of_ble_eq_true rfl) (Nat.le_of_ble_eq_true rfl) (Nat.le_of_ble_eq_true rfl) (fun v7 S6 hE => ?_)
    exact j_iret C Q dX11_who_11 hE
theorem c_X11_who {l : Launch} {D : va_G} {ad : Nat → Nat} {cy : Nat → ClassId} (hO : jOk (jMain D ad cy)) (x1 : Int32) (S : jS) {z : Int32 × jS} (hz : f_X11_who x1 S = some z) : Met l yX11_who (.code yX11_who cX11_who 3 (some .int) :: jT) { frames := 7, cells := 0, slots := 0, locals := 158 } (va_Pc [.ref (ad 0), .int x1] (jInv (jMain D ad cy) S)) (jQ (jMain D ad cy) (some (.int z.1), z.2)) 0 0 (yA (jMain D ad cy)) :=
  jMet hO (by decide +kernel) rfl (Nat.le_of_ble_eq_true rfl) (fun X _ C Q => p_X11_who_e C Q x1 S hz)
set_option maxRecDepth 100000 in
theorem p_X12_greaterPart_35 {X : jX} {D : va_G} {ad : Nat → Nat} {cy : Nat → ClassId} (C : jC X (jMain D ad cy) RX12 cX12_greaterPart (some .int) 4 3 70) {z : Int32 × jS} (Q : jRet X (jMain D ad cy) (some (.int z.1), z.2)) {g : Int32 → Int32 → Int32 → jS → Option (Int32 × jS)} (hg : ∀ (x1 : Int32) (x2 : Int32) (x3 : Int32) (S : jS), g x1 x2 x3 S = some z → jJ X (jMain D ad cy) 4 [(0, .ref (ad 41)), (1, .int x1), (2, .int x2), (3, .int x3)] [] S) {k43 : Int32 → jS → Option (Int32 × jS)} (hk43 : ∀ (x2 : Int32) (S : jS), k43 x2 S = some z → jJ X (jMain D ad cy) 43 [(0, .ref (ad 41)), (2, .int x2)] [] S) (a0 : Int32) (a1 : Int32) (x1 : Int32) (x3 : Int32) (S : jS) (hE : f_X12_greaterPart_35 g k43 a0 a1 x1 x3 S = some z) : jJ X (jMain D ad cy) 35 [(0, .ref (ad 41)), (1, .int x1), (3, .int x3)] [.int a0, .int a1] S := by
  unfold f_X12_greaterPart_35 at hE
  refine j_iadd C dX12_greaterPart_35 ?_
  refine j_istore_n (i := 2) (lv' := [(2, .int (a1 + a0)), (0, .ref (ad 41)), (1, .int x1), (3, .int x3)]) C dX12_greaterPart_36 rfl (by decide) rfl ?_
  refine j_iinc (v := (x3 + 1)) (lv' := [(3, .int (x3 + 1)), (2, .int (a1 + a0)), (0, .ref (ad 41)), (1, .int x1)]) C dX12_greaterPart_37 3 rfl (congrArg (fun w => x3 + w) jc_ic_1) (by decide) rfl ?_
  refine j_goto (tgt := 4) C dX12_greaterPart_40 rfl ?_
  refine j_sub [2, 3, 1, 0] rfl ?_
  exact hg x1 (a1 + a0) (x3 + 1) S hE
set_option maxRecDepth 100000 in
theorem p_X12_greaterPart_34 {X : jX} {D : va_G} {ad : Nat → Nat} {cy : Nat → ClassId} (C : jC X (jMain D ad cy) RX12 cX12_greaterPart (some .int) 4 3 70) {z : Int32 × jS} (Q : jRet X (jMain D ad cy) (some (.int z.1), z.2)) {g : Int32 → Int32 → Int32 → jS → Option (Int32 × jS)} (hg : ∀ (x1 : Int32) (x2 : Int32) (x3 : Int32) (S : jS), g x1 x2 x3 S = some z → jJ X (jMain D ad cy) 4 [(0, .ref (ad 41)), (1, .int x1), (2, .int x2), (3, .int x3)] [] S) {k43 : Int32 → jS → Option (Int32 × jS)} (hk43 : ∀ (x2 : Int32) (S : jS), k43 x2 S = some z → jJ X (jMain D ad cy) 43 [(0, .ref (ad 41)), (2, .int x2)] [] S) (a0 : Int32) (x1 : Int32) (x3 : Int32) (S : jS) (hE : f_X12_greaterPart_34 g k43 a0 x1 x3 S = some z) : jJ X (jMain D ad cy) 34 [(0, .ref (ad 41)), (1, .int x1), (3, .int x3)] [.int a0] S := by
  unfold f_X12_greaterPart_34 at hE
  refine j_iconst (v := 0) C dX12_greaterPart_34 jc_ic_0 ?_
  exact p_X12_greaterPart_35 C Q hg hk43 0 a0 x1 x3 S hE
set_option maxRecDepth 100000 in
theorem p_X12_greaterPart_4 {X : jX} {D : va_G} {ad : Nat → Nat} {cy : Nat → ClassId} (C : jC X (jMain D ad cy) RX12 cX12_greaterPart (some .int) 4 3 70) {z : Int32 × jS} (Q : jRet X (jMain D ad cy) (some (.int z.1), z.2)) {g : Int32 → Int32 → Int32 → jS → Option (Int32 × jS)} (hg : ∀ (x1 : Int32) (x2 : Int32) (x3 : Int32) (S : jS), g x1 x2 x3 S = some z → jJ X (jMain D ad cy) 4 [(0, .ref (ad 41)), (1, .int x1), (2, .int x2), (3, .int x3)] [] S) {k43 : Int32 → jS → Option (Int32 × jS)} (hk43 : ∀ (x2 : Int32) (S : jS), k43 x2 S = some z → jJ X (jMain D ad cy) 43 [(0, .ref (ad 41)), (2, .int x2)] [] S) (x1 : Int32) (x2 : Int32) (x3 : Int32) (S : jS) (hE : f_X12_greaterPart_4 g k43 x1 x2 x3 S = some z) : jJ X (jMain D ad cy) 4 [(0, .ref (ad 41)), (1, .int x1), (2, .int x2), (3, .int x3)] [] S := by
  unfold f_X12_greaterPart_4 at hE
  refine j_iload_n C dX12_greaterPart_4 3 rfl ?_
  refine j_sipush (v := 300) C dX12_greaterPart_5 jc_sp_300 ?_
  refine j_icmp_gt (tgt := 43) C dX12_greaterPart_8 rfl hE (fun hE => ?_) (fun hE => ?_)
  · refine j_sub [0, 2] rfl ?_
    exact hk43 x2 S hE
  · refine j_iload_n C dX12_greaterPart_11 2 rfl ?_
    refine j_aload_n C dX12_greaterPart_12 0 rfl ?_
    refine g_X12_45_41 C dX12_greaterPart_13 ?_
    refine j_iload_n C dX12_greaterPart_16 3 rfl ?_
    refine l_52 C dX12_greaterPart_17 hE (fun v1 hE => ?_)
    refine j_if_eq (tgt := 34) C dX12_greaterPart_18 rfl hE (fun hE => ?_) (fun hE => ?_)
    · refine j_sub [0, 1, 3] rfl ?_
      exact p_X12_greaterPart_34 C Q hg hk43 x2 x1 x3 S hE
    · refine j_aload_n C dX12_greaterPart_21 0 rfl ?_
      refine j_iload_n C dX12_greaterPart_22 3 rfl ?_
      refine j_iload_n C dX12_greaterPart_23 1 rfl ?_
      refine k_X12_117_X12_mayNow C dX12_greaterPart_24 hE (Nat.le_of_ble_eq_true rfl) (Nat.le_of_ble_eq_true rfl) (Nat.le_of_ble_eq_true rfl) (fun v3 S2 hE => ?_)
      refine j_if_eq (tgt := 34) C dX12_greaterPart_27 rfl hE (fun hE => ?_) (fun hE => ?_)
      · refine j_sub [0, 1, 3] rfl ?_
        exact p_X12_greaterPart_34 C Q hg hk43 x2 x1 x3 S2 hE
      · refine j_iconst (v := 1) C dX12_greaterPart_30 jc_ic_1 ?_
        refine j_goto (tgt := 35) C dX12_greaterPart_31 rfl ?_
        refine j_sub [0, 1, 3] rfl ?_
        exact p_X12_greaterPart_35 C Q hg hk43 1 x2 x1 x3 S2 hE
theorem q_X12_greaterPart_4 {X : jX} {D : va_G} {ad : Nat → Nat} {cy : Nat → ClassId} (C : jC X (jMain D ad cy) RX12 cX12_greaterPart (some .int) 4 3 70) {z : Int32 × jS} (Q : jRet X (jMain D ad cy) (some (.int z.1), z.2)) {k43 : Int32 → jS → Option (Int32 × jS)} (hk43 : ∀ (x2 : Int32) (S : jS), k43 x2 S = some z → jJ X (jMain D ad cy) 43 [(0, .ref (ad 41)), (2, .int x2)] [] S) (x1 : Int32) (x2 : Int32) (x3 : Int32) (S : jS) (hE : lp_X12_greaterPart_4 k43 x1 x2 x3 S = some z) : jJ X (jMain D ad cy) 4 [(0, .ref (ad 41)), (1, .int x1), (2, .int x2), (3, .int x3)] [] S :=
  jloop_P (α := Int32 × Int32 × Int32 × jS) (B := (fun g q => f_X12_greaterPart_4 (fun x1 x2 x3 S => g (x1, x2, x3, S)) k43 q.1 q.2.1 q.2.2.1 q.2.2.2)) (P := fun q => jJ X (jMain D ad cy) 4 [(0, .ref (ad 41)), (1, .int q.1), (2, .int q.2.1), (3, .int q.2.2.1)] [] q.2.2.2) (fun g q hg h => p_X12_greaterPart_4 C Q (g := fun x1 x2 x3 S => g (x1, x2, x3, S)) (fun x1 x2 x3 S h => hg (x1, x2, x3, S) h) hk43 q.1 q.2.1 q.2.2.1 q.2.2.2 h) jN (x1, x2, x3, S) hE
set_option maxRecDepth 100000 in
theorem p_X12_greaterPart_63 {X : jX} {D : va_G} {ad : Nat → Nat} {cy : Nat → ClassId} (C : jC X (jMain D ad cy) RX12 cX12_greaterPart (some .int) 4 3 70) {z : Int32 × jS} (Q : jRet X (jMain D ad cy) (some (.int z.1), z.2))  (a0 : Int32) (S : jS) (hE : f_X12_greaterPart_63  a0 S = some z) : jJ X (jMain D ad cy) 63 [] [.int a0] S := by
  unfold f_X12_greaterPart_63 at hE
  exact j_iret C Q dX12_greaterPart_63 hE
set_option maxRecDepth 100000 in
theorem p_X12_greaterPart_43 {X : jX} {D : va_G} {ad : Nat → Nat} {cy : Nat → ClassId} (C : jC X (jMain D ad cy) RX12 cX12_greaterPart (some .int) 4 3 70) {z : Int32 × jS} (Q : jRet X (jMain D ad cy) (some (.int z.1), z.2))  (x2 : Int32) (S : jS) (hE : f_X12_greaterPart_43  x2 S = some z) : jJ X (jMain D ad cy) 43 [(0, .ref (ad 41)), (2, .int x2)] [] S := by
  unfold f_X12_greaterPart_43 at hE
  refine j_iconst (v := 2) C dX12_greaterPart_43 jc_ic_2 ?_
  refine j_iload_n C dX12_greaterPart_44 1 rfl ?_
  refine j_imul C dX12_greaterPart_45 ?_
  refine j_aload_n C dX12_greaterPart_46 0 rfl ?_
  refine g_X12_189_41 C dX12_greaterPart_47 ?_
  refine j_icmp_le (tgt := 57) C dX12_greaterPart_50 rfl hE (fun hE => ?_) (fun hE => ?_)
  · refine j_aload_n C dX12_greaterPart_57 0 rfl ?_
    refine g_X12_189_41 C dX12_greaterPart_58 ?_
    refine j_iload_n C dX12_greaterPart_61 1 rfl ?_
    refine j_isub C dX12_greaterPart_62 ?_
    refine j_sub [] rfl ?_
    exact p_X12_greaterPart_63 C Q  ((S.1 41 15) - x2) S hE
  · refine j_iload_n C dX12_greaterPart_53 1 rfl ?_
    refine j_goto (tgt := 63) C dX12_greaterPart_54 rfl ?_
    refine j_sub [] rfl ?_
    exact p_X12_greaterPart_63 C Q  x2 S hE
set_option maxRecDepth 100000 in
theorem p_X12_greaterPart_e {X : jX} {D : va_G} {ad : Nat → Nat} {cy : Nat → ClassId} (C : jC X (jMain D ad cy) RX12 cX12_greaterPart (some .int) 4 3 70) {z : Int32 × jS} (Q : jRet X (jMain D ad cy) (some (.int z.1), z.2))  (x1 : Int32) (S : jS) (hE : f_X12_greaterPart_e  x1 S = some z) : jJ X (jMain D ad cy) 0 [(0, .ref (ad 41)), (1, .int x1)] [] S := by
  unfold f_X12_greaterPart_e at hE
  refine j_iconst (v := 0) C dX12_greaterPart_0 jc_ic_0 ?_
  refine j_istore_n (i := 2) (lv' := [(2, .int 0), (0, .ref (ad 41)), (1, .int x1)]) C dX12_greaterPart_1 rfl (by decide) rfl ?_
  refine j_iconst (v := 1) C dX12_greaterPart_2 jc_ic_1 ?_
  refine j_istore_n (i := 3) (lv' := [(3, .int 1), (2, .int 0), (0, .ref (ad 41)), (1, .int x1)]) C dX12_greaterPart_3 rfl (by decide) rfl ?_
  refine j_sub [2, 3, 1, 0] rfl ?_
  exact q_X12_greaterPart_4 C Q (p_X12_greaterPart_43 C Q ) x1 0 1 S hE
theorem c_X12_greaterPart {l : Launch} {D : va_G} {ad : Nat → Nat} {cy : Nat → ClassId} (hO : jOk (jMain D ad cy)) (x1 : Int32) (S : jS) {z : Int32 × jS} (hz : f_X12_greaterPart x1 S = some z) : Met l yX12_greaterPart (.code yX12_greaterPart cX12_greaterPart 4 (some .int) :: jT) { frames := 3, cells := 0, slots := 0, locals := 70 } (va_Pc [.ref (ad 41), .int x1] (jInv (jMain D ad cy) S)) (jQ (jMain D ad cy) (some (.int z.1), z.2)) 0 0 (yA (jMain D ad cy)) :=
  jMet hO (by decide +kernel) rfl (Nat.le_of_ble_eq_true rfl) (fun X _ C Q => p_X12_greaterPart_e C Q x1 S hz)
theorem k_X12_201_X12_greaterPart {X : jX} {D : va_G} {ad : Nat → Nat} {cy : Nat → ClassId} {cc : ByteArray} {ret : Option FieldType} {nL fr lo pc : Nat} {lv : List (Nat × Value)} {st : List Value} {S : jS} {β : Type} {z : β} (C : jC X (jMain D ad cy) RX12 cc ret nL fr lo) {a0 : Int32} {E : Int32 → jS → Option β} (d : decode cc pc = .ok (.invokevirtual 201, 3)) (hE : jcl (f_X12_greaterPart a0 S) E = some z) (hfr : 4 ≤ fr) (hlo : 93 ≤ lo) (hst : (st.map fun v => v.category).sum ≤ 8) (K : ∀ (v : Int32) (S1 : jS), E v S1 = some z → jJ X (jMain D ad cy) (pc + 3) lv (.int v :: st) S1) : jJ X (jMain D ad cy) pc lv (.int a0 :: .ref (ad 41) :: st) S := by
  obtain ⟨v, h1, h2⟩ := jcl_some hE
  exact j_callV (k := 41) (ci := 12) (T := TX12) (N := 25) (n := 1) (As := [.int a0]) C (c_X12_greaterPart C.2.2.2.2.2.2.1 a0 S h1) tw_1172 tw_1174 tw_59 tw_82 tw_1175 (by decide +kernel) rfl (by decide : 41 < 56) rfl rfl hfr hlo hst rfl d (K _ _ h2)
set_option maxRecDepth 100000 in
theorem p_X12_tryNext_56 {X : jX} {D : va_G} {ad : Nat → Nat} {cy : Nat → ClassId} (C : jC X (jMain D ad cy) RX12 cX12_tryNext (some .int) 5 4 93) {z : Int32 × jS} (Q : jRet X (jMain D ad cy) (some (.int z.1), z.2)) {g : Int32 → Int32 → Int32 → jS → Option (Int32 × jS)} (hg : ∀ (x1 : Int32) (x2 : Int32) (x3 : Int32) (S : jS), g x1 x2 x3 S = some z → jJ X (jMain D ad cy) 11 [(0, .ref (ad 41)), (1, .int x1), (2, .int x2), (3, .int x3)] [] S) {k63 : Int32 → jS → Option (Int32 × jS)} (hk63 : ∀ (x1 : Int32) (S : jS), k63 x1 S = some z → jJ X (jMain D ad cy) 63 [(1, .int x1)] [] S) (a0 : Int32) (x1 : Int32) (x3 : Int32) (S : jS) (hE : f_X12_tryNext_56 g k63 a0 x1 x3 S = some z) : jJ X (jMain D ad cy) 56 [(0, .ref (ad 41)), (1, .int x1), (3, .int x3)] [.int a0] S := by
  unfold f_X12_tryNext_56 at hE
  refine j_istore_n (i := 2) (lv' := [(2, .int a0), (0, .ref (ad 41)), (1, .int x1), (3, .int x3)]) C dX12_tryNext_56 rfl (by decide) rfl ?_
  refine j_iinc (v := (x3 + 1)) (lv' := [(3, .int (x3 + 1)), (2, .int a0), (0, .ref (ad 41)), (1, .int x1)]) C dX12_tryNext_57 3 rfl (congrArg (fun w => x3 + w) jc_ic_1) (by decide) rfl ?_
  refine j_goto (tgt := 11) C dX12_tryNext_60 rfl ?_
  refine j_sub [2, 3, 1, 0] rfl ?_
  exact hg x1 a0 (x3 + 1) S hE
set_option maxRecDepth 100000 in
theorem p_X12_tryNext_43 {X : jX} {D : va_G} {ad : Nat → Nat} {cy : Nat → ClassId} (C : jC X (jMain D ad cy) RX12 cX12_tryNext (some .int) 5 4 93) {z : Int32 × jS} (Q : jRet X (jMain D ad cy) (some (.int z.1), z.2)) {g : Int32 → Int32 → Int32 → jS → Option (Int32 × jS)} (hg : ∀ (x1 : Int32) (x2 : Int32) (x3 : Int32) (S : jS), g x1 x2 x3 S = some z → jJ X (jMain D ad cy) 11 [(0, .ref (ad 41)), (1, .int x1), (2, .int x2), (3, .int x3)] [] S) {k63 : Int32 → jS → Option (Int32 × jS)} (hk63 : ∀ (x1 : Int32) (S : jS), k63 x1 S = some z → jJ X (jMain D ad cy) 63 [(1, .int x1)] [] S) (a0 : Int32) (x2 : Int32) (x3 : Int32) (x4 : Int32) (S : jS) (hE : f_X12_tryNext_43 g k63 a0 x2 x3 x4 S = some z) : jJ X (jMain D ad cy) 43 [(0, .ref (ad 41)), (2, .int x2), (3, .int x3), (4, .int x4)] [.int a0] S := by
  unfold f_X12_tryNext_43 at hE
  refine j_istore_n (i := 1) (lv' := [(1, .int a0), (0, .ref (ad 41)), (2, .int x2), (3, .int x3), (4, .int x4)]) C dX12_tryNext_43 rfl (by decide) rfl ?_
  refine j_iload C dX12_tryNext_44 4 rfl ?_
  refine j_iload_n C dX12_tryNext_46 2 rfl ?_
  refine j_icmp_ge (tgt := 55) C dX12_tryNext_47 rfl hE (fun hE => ?_) (fun hE => ?_)
  · refine j_iload_n C dX12_tryNext_55 2 rfl ?_
    refine j_sub [1, 0, 3] rfl ?_
    exact p_X12_tryNext_56 C Q hg hk63 x2 a0 x3 S hE
  · refine j_iload C dX12_tryNext_50 4 rfl ?_
    refine j_goto (tgt := 56) C dX12_tryNext_52 rfl ?_
    refine j_sub [1, 0, 3] rfl ?_
    exact p_X12_tryNext_56 C Q hg hk63 x4 a0 x3 S hE
set_option maxRecDepth 100000 in
theorem p_X12_tryNext_11 {X : jX} {D : va_G} {ad : Nat → Nat} {cy : Nat → ClassId} (C : jC X (jMain D ad cy) RX12 cX12_tryNext (some .int) 5 4 93) {z : Int32 × jS} (Q : jRet X (jMain D ad cy) (some (.int z.1), z.2)) {g : Int32 → Int32 → Int32 → jS → Option (Int32 × jS)} (hg : ∀ (x1 : Int32) (x2 : Int32) (x3 : Int32) (S : jS), g x1 x2 x3 S = some z → jJ X (jMain D ad cy) 11 [(0, .ref (ad 41)), (1, .int x1), (2, .int x2), (3, .int x3)] [] S) {k63 : Int32 → jS → Option (Int32 × jS)} (hk63 : ∀ (x1 : Int32) (S : jS), k63 x1 S = some z → jJ X (jMain D ad cy) 63 [(1, .int x1)] [] S) (x1 : Int32) (x2 : Int32) (x3 : Int32) (S : jS) (hE : f_X12_tryNext_11 g k63 x1 x2 x3 S = some z) : jJ X (jMain D ad cy) 11 [(0, .ref (ad 41)), (1, .int x1), (2, .int x2), (3, .int x3)] [] S := by
  unfold f_X12_tryNext_11 at hE
  refine j_iload_n C dX12_tryNext_11 3 rfl ?_
  refine j_sipush (v := 300) C dX12_tryNext_12 jc_sp_300 ?_
  refine j_icmp_gt (tgt := 63) C dX12_tryNext_15 rfl hE (fun hE => ?_) (fun hE => ?_)
  · refine j_sub [1] rfl ?_
    exact hk63 x1 S hE
  · refine j_aload_n C dX12_tryNext_18 0 rfl ?_
    refine g_X12_189_41 C dX12_tryNext_19 ?_
    refine j_if_le (tgt := 63) C dX12_tryNext_22 rfl hE (fun hE => ?_) (fun hE => ?_)
    · refine j_sub [1] rfl ?_
      exact hk63 x1 S hE
    · refine j_aload_n C dX12_tryNext_25 0 rfl ?_
      refine j_iload_n C dX12_tryNext_26 3 rfl ?_
      refine k_X12_201_X12_greaterPart C dX12_tryNext_27 hE (Nat.le_of_ble_eq_true rfl) (Nat.le_of_ble_eq_true rfl) (Nat.le_of_ble_eq_true rfl) (fun v2 S1 hE => ?_)
      refine j_istore (lv' := [(4, .int v2), (0, .ref (ad 41)), (1, .int x1), (2, .int x2), (3, .int x3)]) C dX12_tryNext_30 (by decide) rfl ?_
      refine j_iload C dX12_tryNext_32 0 rfl ?_
      refine j_iload_n C dX12_tryNext_34 3 rfl ?_
      refine j_icmp_ge (tgt := 42) C dX12_tryNext_35 rfl hE (fun hE => ?_) (fun hE => ?_)
      · refine j_iload_n C dX12_tryNext_42 2 rfl ?_
        refine j_sub [1, 3, 4, 0] rfl ?_
        exact p_X12_tryNext_43 C Q hg hk63 x1 x2 x3 v2 S1 hE
      · refine j_iload_n C dX12_tryNext_38 4 rfl ?_
        refine j_goto (tgt := 43) C dX12_tryNext_39 rfl ?_
        refine j_sub [1, 3, 4, 0] rfl ?_
        exact p_X12_tryNext_43 C Q hg hk63 x3 x2 x3 v2 S1 hE
theorem q_X12_tryNext_11 {X : jX} {D : va_G} {ad : Nat → Nat} {cy : Nat → ClassId} (C : jC X (jMain D ad cy) RX12 cX12_tryNext (some .int) 5 4 93) {z : Int32 × jS} (Q : jRet X (jMain D ad cy) (some (.int z.1), z.2)) {k63 : Int32 → jS → Option (Int32 × jS)} (hk63 : ∀ (x1 : Int32) (S : jS), k63 x1 S = some z → jJ X (jMain D ad cy) 63 [(1, .int x1)] [] S) (x1 : Int32) (x2 : Int32) (x3 : Int32) (S : jS) (hE : lp_X12_tryNext_11 k63 x1 x2 x3 S = some z) : jJ X (jMain D ad cy) 11 [(0, .ref (ad 41)), (1, .int x1), (2, .int x2), (3, .int x3)] [] S :=
  jloop_P (α := Int32 × Int32 × Int32 × jS) (B := (fun g q => f_X12_tryNext_11 (fun x1 x2 x3 S => g (x1, x2, x3, S)) k63 q.1 q.2.1 q.2.2.1 q.2.2.2)) (P := fun q => jJ X (jMain D ad cy) 11 [(0, .ref (ad 41)), (1, .int q.1), (2, .int q.2.1), (3, .int q.2.2.1)] [] q.2.2.2) (fun g q hg h => p_X12_tryNext_11 C Q (g := fun x1 x2 x3 S => g (x1, x2, x3, S)) (fun x1 x2 x3 S h => hg (x1, x2, x3, S) h) hk63 q.1 q.2.1 q.2.2.1 q.2.2.2 h) jN (x1, x2, x3, S) hE
set_option maxRecDepth 100000 in
theorem p_X12_tryNext_63 {X : jX} {D : va_G} {ad : Nat → Nat} {cy : Nat → ClassId} (C : jC X (jMain D ad cy) RX12 cX12_tryNext (some .int) 5 4 93) {z : Int32 × jS} (Q : jRet X (jMain D ad cy) (some (.int z.1), z.2))  (x1 : Int32) (S : jS) (hE : f_X12_tryNext_63  x1 S = some z) : jJ X (jMain D ad cy) 63 [(1, .int x1)] [] S := by
  unfold f_X12_tryNext_63 at hE
  refine j_iload_n C dX12_tryNext_63 0 rfl ?_
  exact j_iret C Q dX12_tryNext_64 hE
set_option maxRecDepth 100000 in
theorem p_X12_tryNext_e {X : jX} {D : va_G} {ad : Nat → Nat} {cy : Nat → ClassId} (C : jC X (jMain D ad cy) RX12 cX12_tryNext (some .int) 5 4 93) {z : Int32 × jS} (Q : jRet X (jMain D ad cy) (some (.int z.1), z.2))   (S : jS) (hE : f_X12_tryNext_e   S = some z) : jJ X (jMain D ad cy) 0 [(0, .ref (ad 41))] [] S := by
  unfold f_X12_tryNext_e at hE
  refine j_aload_n C dX12_tryNext_0 0 rfl ?_
  refine k_X12_198_X12_layCan C dX12_tryNext_1 hE (Nat.le_of_ble_eq_true rfl) (Nat.le_of_ble_eq_true rfl) (Nat.le_of_ble_eq_true rfl) (fun S1 hE => ?_)
  refine j_iconst (v := (-1)) C dX12_tryNext_4 jc_ic_m1 ?_
  refine j_istore_n (i := 1) (lv' := [(1, .int (-1)), (0, .ref (ad 41))]) C dX12_tryNext_5 rfl (by decide) rfl ?_
  refine j_ldc (v := 1000000) C dX12_tryNext_6 tw_1081 ?_
  refine j_istore_n (i := 2) (lv' := [(2, .int 1000000), (1, .int (-1)), (0, .ref (ad 41))]) C dX12_tryNext_8 rfl (by decide) rfl ?_
  refine j_iconst (v := 1) C dX12_tryNext_9 jc_ic_1 ?_
  refine j_istore_n (i := 3) (lv' := [(3, .int 1), (2, .int 1000000), (1, .int (-1)), (0, .ref (ad 41))]) C dX12_tryNext_10 rfl (by decide) rfl ?_
  refine j_sub [3, 2, 1, 0] rfl ?_
  exact q_X12_tryNext_11 C Q (p_X12_tryNext_63 C Q ) (-1) 1000000 1 S1 hE
theorem c_X12_tryNext {l : Launch} {D : va_G} {ad : Nat → Nat} {cy : Nat → ClassId} (hO : jOk (jMain D ad cy))  (S : jS) {z : Int32 × jS} (hz : f_X12_tryNext  S = some z) : Met l yX12_tryNext (.code yX12_tryNext cX12_tryNext 5 (some .int) :: jT) { frames := 4, cells := 0, slots := 0, locals := 93 } (va_Pc [.ref (ad 41)] (jInv (jMain D ad cy) S)) (jQ (jMain D ad cy) (some (.int z.1), z.2)) 0 0 (yA (jMain D ad cy)) :=
  jMet hO (by decide +kernel) rfl (Nat.le_of_ble_eq_true rfl) (fun X _ C Q => p_X12_tryNext_e C Q  S hz)
set_option maxRecDepth 100000 in
theorem p_X11_greaterPart_71 {X : jX} {D : va_G} {ad : Nat → Nat} {cy : Nat → ClassId} (C : jC X (jMain D ad cy) RX11 cX11_greaterPart (some .int) 7 5 113) {z : Int32 × jS} (Q : jRet X (jMain D ad cy) (some (.int z.1), z.2)) {g : Int32 → Int32 → Int32 → Int32 → Int32 → Int32 → jS → Option (Int32 × jS)} (hg : ∀ (x1 : Int32) (x2 : Int32) (x3 : Int32) (x4 : Int32) (x5 : Int32) (x6 : Int32) (S : jS), g x1 x2 x3 x4 x5 x6 S = some z → jJ X (jMain D ad cy) 9 [(0, .ref (ad 0)), (1, .int x1), (2, .int x2), (3, .int x3), (4, .int x4), (5, .int x5), (6, .int x6)] [] S) {k77 : Int32 → Int32 → jS → Option (Int32 × jS)} (hk77 : ∀ (x4 : Int32) (x5 : Int32) (S : jS), k77 x4 x5 S = some z → jJ X (jMain D ad cy) 77 [(4, .int x4), (5, .int x5)] [] S) (x1 : Int32) (x2 : Int32) (x3 : Int32) (x4 : Int32) (x5 : Int32) (x6 : Int32) (S : jS) (hE : f_X11_greaterPart_71 g k77 x1 x2 x3 x4 x5 x6 S = some z) : jJ X (jMain D ad cy) 71 [(0, .ref (ad 0)), (1, .int x1), (2, .int x2), (3, .int x3), (4, .int x4), (5, .int x5), (6, .int x6)] [] S := by
  unfold f_X11_greaterPart_71 at hE
  refine j_iinc (v := (x6 + 1)) (lv' := [(6, .int (x6 + 1)), (0, .ref (ad 0)), (1, .int x1), (2, .int x2), (3, .int x3), (4, .int x4), (5, .int x5)]) C dX11_greaterPart_71 6 rfl (congrArg (fun w => x6 + w) jc_ic_1) (by decide) rfl ?_
  refine j_goto (tgt := 9) C dX11_greaterPart_74 rfl ?_
  refine j_sub [1, 2, 3, 4, 5, 6, 0] rfl ?_
  exact hg x1 x2 x3 x4 x5 (x6 + 1) S hE
set_option maxRecDepth 100000 in
theorem p_X11_greaterPart_9 {X : jX} {D : va_G} {ad : Nat → Nat} {cy : Nat → ClassId} (C : jC X (jMain D ad cy) RX11 cX11_greaterPart (some .int) 7 5 113) {z : Int32 × jS} (Q : jRet X (jMain D ad cy) (some (.int z.1), z.2)) {g : Int32 → Int32 → Int32 → Int32 → Int32 → Int32 → jS → Option (Int32 × jS)} (hg : ∀ (x1 : Int32) (x2 : Int32) (x3 : Int32) (x4 : Int32) (x5 : Int32) (x6 : Int32) (S : jS), g x1 x2 x3 x4 x5 x6 S = some z → jJ X (jMain D ad cy) 9 [(0, .ref (ad 0)), (1, .int x1), (2, .int x2), (3, .int x3), (4, .int x4), (5, .int x5), (6, .int x6)] [] S) {k77 : Int32 → Int32 → jS → Option (Int32 × jS)} (hk77 : ∀ (x4 : Int32) (x5 : Int32) (S : jS), k77 x4 x5 S = some z → jJ X (jMain D ad cy) 77 [(4, .int x4), (5, .int x5)] [] S) (x1 : Int32) (x2 : Int32) (x3 : Int32) (x4 : Int32) (x5 : Int32) (x6 : Int32) (S : jS) (hE : f_X11_greaterPart_9 g k77 x1 x2 x3 x4 x5 x6 S = some z) : jJ X (jMain D ad cy) 9 [(0, .ref (ad 0)), (1, .int x1), (2, .int x2), (3, .int x3), (4, .int x4), (5, .int x5), (6, .int x6)] [] S := by
  unfold f_X11_greaterPart_9 at hE
  refine j_iload C dX11_greaterPart_9 6 rfl ?_
  refine j_iload_n C dX11_greaterPart_11 2 rfl ?_
  refine j_icmp_ge (tgt := 77) C dX11_greaterPart_12 rfl hE (fun hE => ?_) (fun hE => ?_)
  · refine j_sub [4, 5] rfl ?_
    exact hk77 x4 x5 S hE
  · refine j_iload C dX11_greaterPart_15 6 rfl ?_
    refine j_aload_n C dX11_greaterPart_17 0 rfl ?_
    refine g_X11_60_0 C dX11_greaterPart_18 ?_
    refine n_39 C dX11_greaterPart_21 ?_
    refine j_icmp_ge (tgt := 77) C dX11_greaterPart_22 rfl hE (fun hE => ?_) (fun hE => ?_)
    · refine j_sub [4, 5] rfl ?_
      exact hk77 x4 x5 S hE
    · refine j_iload C dX11_greaterPart_25 4 rfl ?_
      refine j_iload_n C dX11_greaterPart_27 3 rfl ?_
      refine j_icmp_ge (tgt := 77) C dX11_greaterPart_28 rfl hE (fun hE => ?_) (fun hE => ?_)
      · refine j_sub [4, 5] rfl ?_
        exact hk77 x4 x5 S hE
      · refine j_iload C dX11_greaterPart_31 5 rfl ?_
        refine j_iload_n C dX11_greaterPart_33 3 rfl ?_
        refine j_icmp_ge (tgt := 77) C dX11_greaterPart_34 rfl hE (fun hE => ?_) (fun hE => ?_)
        · refine j_sub [4, 5] rfl ?_
          exact hk77 x4 x5 S hE
        · refine j_aload_n C dX11_greaterPart_37 0 rfl ?_
          refine g_X11_21_0 C dX11_greaterPart_38 ?_
          refine j_aload_n C dX11_greaterPart_41 0 rfl ?_
          refine g_X11_44_0 C dX11_greaterPart_42 ?_
          refine g_X11_85_21 C dX11_greaterPart_45 ?_
          refine j_iload_n C dX11_greaterPart_48 1 rfl ?_
          refine j_aload_n C dX11_greaterPart_49 0 rfl ?_
          refine g_X11_60_0 C dX11_greaterPart_50 ?_
          refine j_iload C dX11_greaterPart_53 6 rfl ?_
          refine l_39 C dX11_greaterPart_55 hE (fun v1 hE => ?_)
          refine k_X11_156_X2_allows C dX11_greaterPart_56 hE (Nat.le_of_ble_eq_true rfl) (Nat.le_of_ble_eq_true rfl) (Nat.le_of_ble_eq_true rfl) (fun v3 S2 hE => ?_)
          refine j_if_eq (tgt := 68) C dX11_greaterPart_59 rfl hE (fun hE => ?_) (fun hE => ?_)
          · refine j_iinc (v := (x5 + 1)) (lv' := [(5, .int (x5 + 1)), (0, .ref (ad 0)), (1, .int x1), (2, .int x2), (3, .int x3), (4, .int x4), (6, .int x6)]) C dX11_greaterPart_68 5 rfl (congrArg (fun w => x5 + w) jc_ic_1) (by decide) rfl ?_
            refine j_sub [1, 2, 3, 4, 5, 0, 6] rfl ?_
            exact p_X11_greaterPart_71 C Q hg hk77 x1 x2 x3 x4 (x5 + 1) x6 S2 hE
          · refine j_iinc (v := (x4 + 1)) (lv' := [(4, .int (x4 + 1)), (0, .ref (ad 0)), (1, .int x1), (2, .int x2), (3, .int x3), (5, .int x5), (6, .int x6)]) C dX11_greaterPart_62 4 rfl (congrArg (fun w => x4 + w) jc_ic_1) (by decide) rfl ?_
            refine j_goto (tgt := 71) C dX11_greaterPart_65 rfl ?_
            refine j_sub [1, 2, 3, 4, 0, 5, 6] rfl ?_
            exact p_X11_greaterPart_71 C Q hg hk77 x1 x2 x3 (x4 + 1) x5 x6 S2 hE
theorem q_X11_greaterPart_9 {X : jX} {D : va_G} {ad : Nat → Nat} {cy : Nat → ClassId} (C : jC X (jMain D ad cy) RX11 cX11_greaterPart (some .int) 7 5 113) {z : Int32 × jS} (Q : jRet X (jMain D ad cy) (some (.int z.1), z.2)) {k77 : Int32 → Int32 → jS → Option (Int32 × jS)} (hk77 : ∀ (x4 : Int32) (x5 : Int32) (S : jS), k77 x4 x5 S = some z → jJ X (jMain D ad cy) 77 [(4, .int x4), (5, .int x5)] [] S) (x1 : Int32) (x2 : Int32) (x3 : Int32) (x4 : Int32) (x5 : Int32) (x6 : Int32) (S : jS) (hE : lp_X11_greaterPart_9 k77 x1 x2 x3 x4 x5 x6 S = some z) : jJ X (jMain D ad cy) 9 [(0, .ref (ad 0)), (1, .int x1), (2, .int x2), (3, .int x3), (4, .int x4), (5, .int x5), (6, .int x6)] [] S :=
  jloop_P (α := Int32 × Int32 × Int32 × Int32 × Int32 × Int32 × jS) (B := (fun g q => f_X11_greaterPart_9 (fun x1 x2 x3 x4 x5 x6 S => g (x1, x2, x3, x4, x5, x6, S)) k77 q.1 q.2.1 q.2.2.1 q.2.2.2.1 q.2.2.2.2.1 q.2.2.2.2.2.1 q.2.2.2.2.2.2)) (P := fun q => jJ X (jMain D ad cy) 9 [(0, .ref (ad 0)), (1, .int q.1), (2, .int q.2.1), (3, .int q.2.2.1), (4, .int q.2.2.2.1), (5, .int q.2.2.2.2.1), (6, .int q.2.2.2.2.2.1)] [] q.2.2.2.2.2.2) (fun g q hg h => p_X11_greaterPart_9 C Q (g := fun x1 x2 x3 x4 x5 x6 S => g (x1, x2, x3, x4, x5, x6, S)) (fun x1 x2 x3 x4 x5 x6 S h => hg (x1, x2, x3, x4, x5, x6, S) h) hk77 q.1 q.2.1 q.2.2.1 q.2.2.2.1 q.2.2.2.2.1 q.2.2.2.2.2.1 q.2.2.2.2.2.2 h) jN (x1, x2, x3, x4, x5, x6, S) hE
set_option maxRecDepth 100000 in
theorem p_X11_greaterPart_77 {X : jX} {D : va_G} {ad : Nat → Nat} {cy : Nat → ClassId} (C : jC X (jMain D ad cy) RX11 cX11_greaterPart (some .int) 7 5 113) {z : Int32 × jS} (Q : jRet X (jMain D ad cy) (some (.int z.1), z.2))  (x4 : Int32) (x5 : Int32) (S : jS) (hE : f_X11_greaterPart_77  x4 x5 S = some z) : jJ X (jMain D ad cy) 77 [(4, .int x4), (5, .int x5)] [] S := by
  unfold f_X11_greaterPart_77 at hE
  refine j_iload C dX11_greaterPart_77 0 rfl ?_
  refine j_iload C dX11_greaterPart_79 1 rfl ?_
  refine j_mmax C tm_776 tm_686 tm_88 tm_687 dX11_greaterPart_81 (Nat.le_of_ble_eq_true rfl) (Nat.le_of_ble_eq_true rfl) ?_
  exact j_iret C Q dX11_greaterPart_84 hE
set_option maxRecDepth 100000 in
theorem p_X11_greaterPart_e {X : jX} {D : va_G} {ad : Nat → Nat} {cy : Nat → ClassId} (C : jC X (jMain D ad cy) RX11 cX11_greaterPart (some .int) 7 5 113) {z : Int32 × jS} (Q : jRet X (jMain D ad cy) (some (.int z.1), z.2))  (x1 : Int32) (x2 : Int32) (x3 : Int32) (S : jS) (hE : f_X11_greaterPart_e  x1 x2 x3 S = some z) : jJ X (jMain D ad cy) 0 [(0, .ref (ad 0)), (1, .int x1), (2, .int x2), (3, .int x3)] [] S := by
  unfold f_X11_greaterPart_e at hE
  refine j_iconst (v := 0) C dX11_greaterPart_0 jc_ic_0 ?_
  refine j_istore (lv' := [(4, .int 0), (0, .ref (ad 0)), (1, .int x1), (2, .int x2), (3, .int x3)]) C dX11_greaterPart_1 (by decide) rfl ?_
  refine j_iconst (v := 0) C dX11_greaterPart_3 jc_ic_0 ?_
  refine j_istore (lv' := [(5, .int 0), (4, .int 0), (0, .ref (ad 0)), (1, .int x1), (2, .int x2), (3, .int x3)]) C dX11_greaterPart_4 (by decide) rfl ?_
  refine j_iconst (v := 0) C dX11_greaterPart_6 jc_ic_0 ?_
  refine j_istore (lv' := [(6, .int 0), (5, .int 0), (4, .int 0), (0, .ref (ad 0)), (1, .int x1), (2, .int x2), (3, .int x3)]) C dX11_greaterPart_7 (by decide) rfl ?_
  refine j_sub [3, 4, 5, 6, 2, 1, 0] rfl ?_
  exact q_X11_greaterPart_9 C Q (p_X11_greaterPart_77 C Q ) x1 x2 x3 0 0 0 S hE
theorem c_X11_greaterPart {l : Launch} {D : va_G} {ad : Nat → Nat} {cy : Nat → ClassId} (hO : jOk (jMain D ad cy)) (x1 : Int32) (x2 : Int32) (x3 : Int32) (S : jS) {z : Int32 × jS} (hz : f_X11_greaterPart x1 x2 x3 S = some z) : Met l yX11_greaterPart (.code yX11_greaterPart cX11_greaterPart 7 (some .int) :: jT) { frames := 5, cells := 0, slots := 0, locals := 113 } (va_Pc [.ref (ad 0), .int x1, .int x2, .int x3] (jInv (jMain D ad cy) S)) (jQ (jMain D ad cy) (some (.int z.1), z.2)) 0 0 (yA (jMain D ad cy)) :=
  jMet hO (by decide +kernel) rfl (Nat.le_of_ble_eq_true rfl) (fun X _ C Q => p_X11_greaterPart_e C Q x1 x2 x3 S hz)
theorem k_X11_228_X11_greaterPart {X : jX} {D : va_G} {ad : Nat → Nat} {cy : Nat → ClassId} {cc : ByteArray} {ret : Option FieldType} {nL fr lo pc : Nat} {lv : List (Nat × Value)} {st : List Value} {S : jS} {β : Type} {z : β} (C : jC X (jMain D ad cy) RX11 cc ret nL fr lo) {a0 : Int32} {a1 : Int32} {a2 : Int32} {E : Int32 → jS → Option β} (d : decode cc pc = .ok (.invokevirtual 228, 3)) (hE : jcl (f_X11_greaterPart a0 a1 a2 S) E = some z) (hfr : 6 ≤ fr) (hlo : 139 ≤ lo) (hst : (st.map fun v => v.category).sum ≤ 8) (K : ∀ (v : Int32) (S1 : jS), E v S1 = some z → jJ X (jMain D ad cy) (pc + 3) lv (.int v :: st) S1) : jJ X (jMain D ad cy) pc lv (.int a2 :: .int a1 :: .int a0 :: .ref (ad 0) :: st) S := by
  obtain ⟨v, h1, h2⟩ := jcl_some hE
  exact j_callV (k := 0) (ci := 11) (T := TX11) (N := 16) (n := 3) (As := [.int a0, .int a1, .int a2]) C (c_X11_greaterPart C.2.2.2.2.2.2.1 a0 a1 a2 S h1) tw_772 tw_774 tw_27 tw_70 tw_775 (by decide +kernel) rfl (by decide : 0 < 56) rfl rfl hfr hlo hst rfl d (K _ _ h2)
set_option maxRecDepth 100000 in
theorem p_X11_tryNext_48 {X : jX} {D : va_G} {ad : Nat → Nat} {cy : Nat → ClassId} (C : jC X (jMain D ad cy) RX11 cX11_tryNext (some .int) 6 7 158) {z : Int32 × jS} (Q : jRet X (jMain D ad cy) (some (.int z.1), z.2)) {g : Int32 → Int32 → Int32 → Int32 → jS → Option (Int32 × jS)} (hg : ∀ (x1 : Int32) (x2 : Int32) (x3 : Int32) (x4 : Int32) (S : jS), g x1 x2 x3 x4 S = some z → jJ X (jMain D ad cy) 14 [(0, .ref (ad 0)), (1, .int x1), (2, .int x2), (3, .int x3), (4, .int x4)] [] S) {k54 : Int32 → jS → Option (Int32 × jS)} (hk54 : ∀ (x2 : Int32) (S : jS), k54 x2 S = some z → jJ X (jMain D ad cy) 54 [(2, .int x2)] [] S) (x1 : Int32) (x2 : Int32) (x3 : Int32) (x4 : Int32) (S : jS) (hE : f_X11_tryNext_48 g k54 x1 x2 x3 x4 S = some z) : jJ X (jMain D ad cy) 48 [(0, .ref (ad 0)), (1, .int x1), (2, .int x2), (3, .int x3), (4, .int x4)] [] S := by
  unfold f_X11_tryNext_48 at hE
  refine j_iinc (v := (x4 + 1)) (lv' := [(4, .int (x4 + 1)), (0, .ref (ad 0)), (1, .int x1), (2, .int x2), (3, .int x3)]) C dX11_tryNext_48 4 rfl (congrArg (fun w => x4 + w) jc_ic_1) (by decide) rfl ?_
  refine j_goto (tgt := 14) C dX11_tryNext_51 rfl ?_
  refine j_sub [1, 2, 3, 4, 0] rfl ?_
  exact hg x1 x2 x3 (x4 + 1) S hE
set_option maxRecDepth 100000 in
theorem p_X11_tryNext_14 {X : jX} {D : va_G} {ad : Nat → Nat} {cy : Nat → ClassId} (C : jC X (jMain D ad cy) RX11 cX11_tryNext (some .int) 6 7 158) {z : Int32 × jS} (Q : jRet X (jMain D ad cy) (some (.int z.1), z.2)) {g : Int32 → Int32 → Int32 → Int32 → jS → Option (Int32 × jS)} (hg : ∀ (x1 : Int32) (x2 : Int32) (x3 : Int32) (x4 : Int32) (S : jS), g x1 x2 x3 x4 S = some z → jJ X (jMain D ad cy) 14 [(0, .ref (ad 0)), (1, .int x1), (2, .int x2), (3, .int x3), (4, .int x4)] [] S) {k54 : Int32 → jS → Option (Int32 × jS)} (hk54 : ∀ (x2 : Int32) (S : jS), k54 x2 S = some z → jJ X (jMain D ad cy) 54 [(2, .int x2)] [] S) (x1 : Int32) (x2 : Int32) (x3 : Int32) (x4 : Int32) (S : jS) (hE : f_X11_tryNext_14 g k54 x1 x2 x3 x4 S = some z) : jJ X (jMain D ad cy) 14 [(0, .ref (ad 0)), (1, .int x1), (2, .int x2), (3, .int x3), (4, .int x4)] [] S := by
  unfold f_X11_tryNext_14 at hE
  refine j_iload C dX11_tryNext_14 4 rfl ?_
  refine j_sipush (v := 300) C dX11_tryNext_16 jc_sp_300 ?_
  refine j_icmp_gt (tgt := 54) C dX11_tryNext_19 rfl hE (fun hE => ?_) (fun hE => ?_)
  · refine j_sub [2] rfl ?_
    exact hk54 x2 S hE
  · refine j_iload_n C dX11_tryNext_22 1 rfl ?_
    refine j_if_le (tgt := 54) C dX11_tryNext_23 rfl hE (fun hE => ?_) (fun hE => ?_)
    · refine j_sub [2] rfl ?_
      exact hk54 x2 S hE
    · refine j_aload_n C dX11_tryNext_26 0 rfl ?_
      refine j_iload C dX11_tryNext_27 4 rfl ?_
      refine j_iload_n C dX11_tryNext_29 1 rfl ?_
      refine j_iload_n C dX11_tryNext_30 3 rfl ?_
      refine k_X11_228_X11_greaterPart C dX11_tryNext_31 hE (Nat.le_of_ble_eq_true rfl) (Nat.le_of_ble_eq_true rfl) (Nat.le_of_ble_eq_true rfl) (fun v2 S1 hE => ?_)
      refine j_istore (lv' := [(5, .int v2), (0, .ref (ad 0)), (1, .int x1), (2, .int x2), (3, .int x3), (4, .int x4)]) C dX11_tryNext_34 (by decide) rfl ?_
      refine j_iload C dX11_tryNext_36 0 rfl ?_
      refine j_iload_n C dX11_tryNext_38 4 rfl ?_
      refine j_icmp_ge (tgt := 48) C dX11_tryNext_39 rfl hE (fun hE => ?_) (fun hE => ?_)
      · refine j_sub [1, 2, 3, 4, 5] rfl ?_
        exact p_X11_tryNext_48 C Q hg hk54 x1 x2 x3 x4 S1 hE
      · refine j_iload C dX11_tryNext_42 0 rfl ?_
        refine j_istore_n (i := 3) (lv' := [(3, .int v2), (5, .int v2), (0, .ref (ad 0)), (1, .int x1), (2, .int x2), (4, .int x4)]) C dX11_tryNext_44 rfl (by decide) rfl ?_
        refine j_iload C dX11_tryNext_45 5 rfl ?_
        refine j_istore_n (i := 2) (lv' := [(2, .int x4), (3, .int v2), (5, .int v2), (0, .ref (ad 0)), (1, .int x1), (4, .int x4)]) C dX11_tryNext_47 rfl (by decide) rfl ?_
        refine j_sub [3, 4, 0, 1, 5] rfl ?_
        exact p_X11_tryNext_48 C Q hg hk54 x1 x4 v2 x4 S1 hE
theorem q_X11_tryNext_14 {X : jX} {D : va_G} {ad : Nat → Nat} {cy : Nat → ClassId} (C : jC X (jMain D ad cy) RX11 cX11_tryNext (some .int) 6 7 158) {z : Int32 × jS} (Q : jRet X (jMain D ad cy) (some (.int z.1), z.2)) {k54 : Int32 → jS → Option (Int32 × jS)} (hk54 : ∀ (x2 : Int32) (S : jS), k54 x2 S = some z → jJ X (jMain D ad cy) 54 [(2, .int x2)] [] S) (x1 : Int32) (x2 : Int32) (x3 : Int32) (x4 : Int32) (S : jS) (hE : lp_X11_tryNext_14 k54 x1 x2 x3 x4 S = some z) : jJ X (jMain D ad cy) 14 [(0, .ref (ad 0)), (1, .int x1), (2, .int x2), (3, .int x3), (4, .int x4)] [] S :=
  jloop_P (α := Int32 × Int32 × Int32 × Int32 × jS) (B := (fun g q => f_X11_tryNext_14 (fun x1 x2 x3 x4 S => g (x1, x2, x3, x4, S)) k54 q.1 q.2.1 q.2.2.1 q.2.2.2.1 q.2.2.2.2)) (P := fun q => jJ X (jMain D ad cy) 14 [(0, .ref (ad 0)), (1, .int q.1), (2, .int q.2.1), (3, .int q.2.2.1), (4, .int q.2.2.2.1)] [] q.2.2.2.2) (fun g q hg h => p_X11_tryNext_14 C Q (g := fun x1 x2 x3 x4 S => g (x1, x2, x3, x4, S)) (fun x1 x2 x3 x4 S h => hg (x1, x2, x3, x4, S) h) hk54 q.1 q.2.1 q.2.2.1 q.2.2.2.1 q.2.2.2.2 h) jN (x1, x2, x3, x4, S) hE
set_option maxRecDepth 100000 in
theorem p_X11_tryNext_54 {X : jX} {D : va_G} {ad : Nat → Nat} {cy : Nat → ClassId} (C : jC X (jMain D ad cy) RX11 cX11_tryNext (some .int) 6 7 158) {z : Int32 × jS} (Q : jRet X (jMain D ad cy) (some (.int z.1), z.2))  (x2 : Int32) (S : jS) (hE : f_X11_tryNext_54  x2 S = some z) : jJ X (jMain D ad cy) 54 [(2, .int x2)] [] S := by
  unfold f_X11_tryNext_54 at hE
  refine j_iload_n C dX11_tryNext_54 0 rfl ?_
  exact j_iret C Q dX11_tryNext_55 hE
set_option maxRecDepth 100000 in
theorem p_X11_tryNext_e {X : jX} {D : va_G} {ad : Nat → Nat} {cy : Nat → ClassId} (C : jC X (jMain D ad cy) RX11 cX11_tryNext (some .int) 6 7 158) {z : Int32 × jS} (Q : jRet X (jMain D ad cy) (some (.int z.1), z.2))   (S : jS) (hE : f_X11_tryNext_e   S = some z) : jJ X (jMain D ad cy) 0 [(0, .ref (ad 0))] [] S := by
  unfold f_X11_tryNext_e at hE
  refine j_aload_n C dX11_tryNext_0 0 rfl ?_
  refine k_X11_225_X11_gatherFits C dX11_tryNext_1 hE (Nat.le_of_ble_eq_true rfl) (Nat.le_of_ble_eq_true rfl) (Nat.le_of_ble_eq_true rfl) (fun v2 S1 hE => ?_)
  refine j_istore_n (i := 1) (lv' := [(1, .int v2), (0, .ref (ad 0))]) C dX11_tryNext_4 rfl (by decide) rfl ?_
  refine j_iconst (v := (-1)) C dX11_tryNext_5 jc_ic_m1 ?_
  refine j_istore_n (i := 2) (lv' := [(2, .int (-1)), (1, .int v2), (0, .ref (ad 0))]) C dX11_tryNext_6 rfl (by decide) rfl ?_
  refine j_sipush (v := 301) C dX11_tryNext_7 jc_sp_301 ?_
  refine j_istore_n (i := 3) (lv' := [(3, .int 301), (2, .int (-1)), (1, .int v2), (0, .ref (ad 0))]) C dX11_tryNext_10 rfl (by decide) rfl ?_
  refine j_iconst (v := 1) C dX11_tryNext_11 jc_ic_1 ?_
  refine j_istore (lv' := [(4, .int 1), (3, .int 301), (2, .int (-1)), (1, .int v2), (0, .ref (ad 0))]) C dX11_tryNext_12 (by decide) rfl ?_
  refine j_sub [4, 3, 2, 1, 0] rfl ?_
  exact q_X11_tryNext_14 C Q (p_X11_tryNext_54 C Q ) v2 (-1) 301 1 S1 hE
theorem c_X11_tryNext {l : Launch} {D : va_G} {ad : Nat → Nat} {cy : Nat → ClassId} (hO : jOk (jMain D ad cy))  (S : jS) {z : Int32 × jS} (hz : f_X11_tryNext  S = some z) : Met l yX11_tryNext (.code yX11_tryNext cX11_tryNext 6 (some .int) :: jT) { frames := 7, cells := 0, slots := 0, locals := 158 } (va_Pc [.ref (ad 0)] (jInv (jMain D ad cy) S)) (jQ (jMain D ad cy) (some (.int z.1), z.2)) 0 0 (yA (jMain D ad cy)) :=
  jMet hO (by decide +kernel) rfl (Nat.le_of_ble_eq_true rfl) (fun X _ C Q => p_X11_tryNext_e C Q  S hz)
set_option maxRecDepth 100000 in
theorem p_X12_note_24 {X : jX} {D : va_G} {ad : Nat → Nat} {cy : Nat → ClassId} (C : jC X (jMain D ad cy) RX12 cX12_note (some .int) 5 2 45) {z : Int32 × jS} (Q : jRet X (jMain D ad cy) (some (.int z.1), z.2))   (S : jS) (hE : f_X12_note_24   S = some z) : jJ X (jMain D ad cy) 24 [(0, .ref (ad 41))] [] S := by
  unfold f_X12_note_24 at hE
  refine j_aload_n C dX12_note_24 0 rfl ?_
  refine j_bipush (v := (-2)) C dX12_note_25 jc_bp_m2 ?_
  refine k_X12_87_X12_bad C dX12_note_27 hE (Nat.le_of_ble_eq_true rfl) (Nat.le_of_ble_eq_true rfl) (Nat.le_of_ble_eq_true rfl) (fun v2 S1 hE => ?_)
  exact j_iret C Q dX12_note_30 hE
set_option maxRecDepth 100000 in
theorem p_X12_note_e {X : jX} {D : va_G} {ad : Nat → Nat} {cy : Nat → ClassId} (C : jC X (jMain D ad cy) RX12 cX12_note (some .int) 5 2 45) {z : Int32 × jS} (Q : jRet X (jMain D ad cy) (some (.int z.1), z.2))  (x1 : Int32) (x2 : Int32) (x3 : Int32) (S : jS) (hE : f_X12_note_e  x1 x2 x3 S = some z) : jJ X (jMain D ad cy) 0 [(0, .ref (ad 41)), (1, .int x1), (2, .int x2), (3, .int x3)] [] S := by
  unfold f_X12_note_e at hE
  refine j_iload_n C dX12_note_0 1 rfl ?_
  refine k_X12_131_X12_isNumber C dX12_note_1 hE (Nat.le_of_ble_eq_true rfl) (Nat.le_of_ble_eq_true rfl) (Nat.le_of_ble_eq_true rfl) (fun v2 S1 hE => ?_)
  refine j_if_eq (tgt := 24) C dX12_note_4 rfl hE (fun hE => ?_) (fun hE => ?_)
  · refine j_sub [0] rfl ?_
    exact p_X12_note_24 C Q   S1 hE
  · refine j_iload_n C dX12_note_7 2 rfl ?_
    refine k_X12_131_X12_isNumber C dX12_note_8 hE (Nat.le_of_ble_eq_true rfl) (Nat.le_of_ble_eq_true rfl) (Nat.le_of_ble_eq_true rfl) (fun v4 S3 hE => ?_)
    refine j_if_eq (tgt := 24) C dX12_note_11 rfl hE (fun hE => ?_) (fun hE => ?_)
    · refine j_sub [0] rfl ?_
      exact p_X12_note_24 C Q   S3 hE
    · refine j_iload_n C dX12_note_14 3 rfl ?_
      refine j_i2l C dX12_note_15 ?_
      refine j_lconst (v := 0) C dX12_note_16 jc_lc_0 ?_
      refine j_lconst (v := 1) C dX12_note_17 jc_lc_1 ?_
      refine k_X12_59_X12_in C dX12_note_18 hE (Nat.le_of_ble_eq_true rfl) (Nat.le_of_ble_eq_true rfl) (Nat.le_of_ble_eq_true rfl) (fun v6 S5 hE => ?_)
      refine j_if_ne (tgt := 31) C dX12_note_21 rfl hE (fun hE => ?_) (fun hE => ?_)
      · refine j_aload_n C dX12_note_31 0 rfl ?_
        refine g_X12_7_41 C dX12_note_32 ?_
        refine j_bipush (v := 11) C dX12_note_35 jc_bp_11 ?_
        refine l_42 C dX12_note_37 hE (fun v7 hE => ?_)
        refine j_bipush (v := 8) C dX12_note_38 jc_bp_8 ?_
        refine j_icmp_ne (tgt := 48) C dX12_note_40 rfl hE (fun hE => ?_) (fun hE => ?_)
        · refine j_bipush (v := 45) C dX12_note_48 jc_bp_45 ?_
          refine j_iconst (v := 3) C dX12_note_50 jc_ic_3 ?_
          refine j_aload_n C dX12_note_51 0 rfl ?_
          refine g_X12_7_41 C dX12_note_52 ?_
          refine j_bipush (v := 11) C dX12_note_55 jc_bp_11 ?_
          refine l_42 C dX12_note_57 hE (fun v8 hE => ?_)
          refine j_imul C dX12_note_58 ?_
          refine j_iadd C dX12_note_59 ?_
          refine j_istore (lv' := [(4, .int (45 + (3 * v8))), (0, .ref (ad 41)), (1, .int x1), (2, .int x2), (3, .int x3)]) C dX12_note_60 (by decide) rfl ?_
          refine j_aload_n C dX12_note_62 1 rfl ?_
          refine g_X12_7_41 C dX12_note_63 ?_
          refine j_iload C dX12_note_66 0 rfl ?_
          refine j_iload_n C dX12_note_68 2 rfl ?_
          refine s_42 C dX12_note_69 hE (fun S9 hE => ?_)
          refine j_aload_n C dX12_note_70 1 rfl ?_
          refine g_X12_7_41 C dX12_note_71 ?_
          refine j_iload C dX12_note_74 0 rfl ?_
          refine j_iconst (v := 1) C dX12_note_76 jc_ic_1 ?_
          refine j_iadd C dX12_note_77 ?_
          refine j_iload_n C dX12_note_78 3 rfl ?_
          refine s_42 C dX12_note_79 hE (fun S10 hE => ?_)
          refine j_aload_n C dX12_note_80 1 rfl ?_
          refine g_X12_7_41 C dX12_note_81 ?_
          refine j_iload C dX12_note_84 0 rfl ?_
          refine j_iconst (v := 2) C dX12_note_86 jc_ic_2 ?_
          refine j_iadd C dX12_note_87 ?_
          refine j_iload_n C dX12_note_88 4 rfl ?_
          refine s_42 C dX12_note_89 hE (fun S11 hE => ?_)
          refine j_aload_n C dX12_note_90 1 rfl ?_
          refine g_X12_7_41 C dX12_note_91 ?_
          refine j_bipush (v := 11) C dX12_note_94 jc_bp_11 ?_
          refine j_dup2 C dX12_note_96 rfl rfl ?_
          refine l_42 C dX12_note_97 hE (fun v12 hE => ?_)
          refine j_iconst (v := 1) C dX12_note_98 jc_ic_1 ?_
          refine j_iadd C dX12_note_99 ?_
          refine s_42 C dX12_note_100 hE (fun S13 hE => ?_)
          refine j_aload_n C dX12_note_101 1 rfl ?_
          refine g_X12_7_41 C dX12_note_102 ?_
          refine j_bipush (v := 11) C dX12_note_105 jc_bp_11 ?_
          refine l_42 C dX12_note_107 hE (fun v14 hE => ?_)
          exact j_iret C Q dX12_note_108 hE
        · refine j_aload_n C dX12_note_43 0 rfl ?_
          refine k_X12_186_X12_full C dX12_note_44 hE (Nat.le_of_ble_eq_true rfl) (Nat.le_of_ble_eq_true rfl) (Nat.le_of_ble_eq_true rfl) (fun v16 S15 hE => ?_)
          exact j_iret C Q dX12_note_47 hE
      · refine j_sub [0] rfl ?_
        exact p_X12_note_24 C Q   S5 hE
theorem c_X12_note {l : Launch} {D : va_G} {ad : Nat → Nat} {cy : Nat → ClassId} (hO : jOk (jMain D ad cy)) (x1 : Int32) (x2 : Int32) (x3 : Int32) (S : jS) {z : Int32 × jS} (hz : f_X12_note x1 x2 x3 S = some z) : Met l yX12_note (.code yX12_note cX12_note 5 (some .int) :: jT) { frames := 2, cells := 0, slots := 0, locals := 45 } (va_Pc [.ref (ad 41), .int x1, .int x2, .int x3] (jInv (jMain D ad cy) S)) (jQ (jMain D ad cy) (some (.int z.1), z.2)) 0 0 (yA (jMain D ad cy)) :=
  jMet hO (by decide +kernel) rfl (Nat.le_of_ble_eq_true rfl) (fun X _ C Q => p_X12_note_e C Q x1 x2 x3 S hz)
set_option maxRecDepth 100000 in
theorem p_X10_addThree_r24_39 {X : jX} {D : va_G} {ad : Nat → Nat} {cy : Nat → ClassId} (C : jC X (jMain D ad cy) RX10 cX10_addThree (none) 6 0 0) {z : jS} (Q : jRet X (jMain D ad cy) (none, z))   (S : jS) (hE : f_X10_addThree_r24_39   S = some z) : jJ X (jMain D ad cy) 39 [] [] S := by
  unfold f_X10_addThree_r24_39 at hE
  exact j_vret C Q dX10_addThree_39 hE
set_option maxRecDepth 100000 in
theorem p_X10_addThree_r24_e {X : jX} {D : va_G} {ad : Nat → Nat} {cy : Nat → ClassId} (C : jC X (jMain D ad cy) RX10 cX10_addThree (none) 6 0 0) {z : jS} (Q : jRet X (jMain D ad cy) (none, z))  (x1 : Int32) (x2 : Int32) (x3 : Int32) (x4 : Int32) (S : jS) (hE : f_X10_addThree_r24_e  x1 x2 x3 x4 S = some z) : jJ X (jMain D ad cy) 0 [(0, .ref (ad 24)), (1, .int x1), (2, .int x2), (3, .int x3), (4, .int x4)] [] S := by
  unfold f_X10_addThree_r24_e at hE
  refine j_iconst (v := 3) C dX10_addThree_0 jc_ic_3 ?_
  refine j_iload_n C dX10_addThree_1 1 rfl ?_
  refine j_imul C dX10_addThree_2 ?_
  refine j_istore (lv' := [(5, .int (3 * x1)), (0, .ref (ad 24)), (1, .int x1), (2, .int x2), (3, .int x3), (4, .int x4)]) C dX10_addThree_3 (by decide) rfl ?_
  refine j_iload C dX10_addThree_5 0 rfl ?_
  refine j_if_lt (tgt := 39) C dX10_addThree_7 rfl hE (fun hE => ?_) (fun hE => ?_)
  · refine j_sub [] rfl ?_
    exact p_X10_addThree_r24_39 C Q   S hE
  · refine j_iload C dX10_addThree_10 0 rfl ?_
    refine j_iconst (v := 2) C dX10_addThree_12 jc_ic_2 ?_
    refine j_iadd C dX10_addThree_13 ?_
    refine j_aload_n C dX10_addThree_14 1 rfl ?_
    refine n_24 C dX10_addThree_15 ?_
    refine j_icmp_ge (tgt := 39) C dX10_addThree_16 rfl hE (fun hE => ?_) (fun hE => ?_)
    · refine j_sub [] rfl ?_
      exact p_X10_addThree_r24_39 C Q   S hE
    · refine j_aload_n C dX10_addThree_19 1 rfl ?_
      refine j_iload C dX10_addThree_20 0 rfl ?_
      refine j_iload_n C dX10_addThree_22 3 rfl ?_
      refine s_24 C dX10_addThree_23 hE (fun S1 hE => ?_)
      refine j_aload_n C dX10_addThree_24 1 rfl ?_
      refine j_iload C dX10_addThree_25 0 rfl ?_
      refine j_iconst (v := 1) C dX10_addThree_27 jc_ic_1 ?_
      refine j_iadd C dX10_addThree_28 ?_
      refine j_iload_n C dX10_addThree_29 4 rfl ?_
      refine s_24 C dX10_addThree_30 hE (fun S2 hE => ?_)
      refine j_aload_n C dX10_addThree_31 1 rfl ?_
      refine j_iload C dX10_addThree_32 0 rfl ?_
      refine j_iconst (v := 2) C dX10_addThree_34 jc_ic_2 ?_
      refine j_iadd C dX10_addThree_35 ?_
      refine j_iload C dX10_addThree_36 5 rfl ?_
      refine s_24 C dX10_addThree_38 hE (fun S3 hE => ?_)
      refine j_sub [] rfl ?_
      exact p_X10_addThree_r24_39 C Q   S3 hE
theorem c_X10_addThree_r24 {l : Launch} {D : va_G} {ad : Nat → Nat} {cy : Nat → ClassId} (hO : jOk (jMain D ad cy)) (x1 : Int32) (x2 : Int32) (x3 : Int32) (x4 : Int32) (S : jS) {z : jS} (hz : f_X10_addThree_r24 x1 x2 x3 x4 S = some z) : Met l yX10_addThree (.code yX10_addThree cX10_addThree 6 (none) :: jT) { frames := 0, cells := 0, slots := 0, locals := 0 } (va_Pc [.ref (ad 24), .int x1, .int x2, .int x3, .int x4] (jInv (jMain D ad cy) S)) (jQ (jMain D ad cy) (none, z)) 0 0 (yA (jMain D ad cy)) :=
  jMet hO (by decide +kernel) rfl (Nat.le_of_ble_eq_true rfl) (fun X _ C Q => p_X10_addThree_r24_e C Q x1 x2 x3 x4 S hz)
theorem k_X10_43_X10_addThree_r24 {X : jX} {D : va_G} {ad : Nat → Nat} {cy : Nat → ClassId} {cc : ByteArray} {ret : Option FieldType} {nL fr lo pc : Nat} {lv : List (Nat × Value)} {st : List Value} {S : jS} {β : Type} {z : β} (C : jC X (jMain D ad cy) RX10 cc ret nL fr lo) {a1 : Int32} {a2 : Int32} {a3 : Int32} {a4 : Int32} {E : jS → Option β} (d : decode cc pc = .ok (.invokestatic 43, 3)) (hE : jcv (f_X10_addThree_r24 a1 a2 a3 a4 S) E = some z) (hfr : 1 ≤ fr) (hlo : 25 ≤ lo) (hst : (st.map fun v => v.category).sum ≤ 8) (K : ∀ S1, E S1 = some z → jJ X (jMain D ad cy) (pc + 3) lv st S1) : jJ X (jMain D ad cy) pc lv (.int a4 :: .int a3 :: .int a2 :: .int a1 :: .ref (ad 24) :: st) S := by
  obtain ⟨v, h1, h2⟩ := jcv_some hE
  exact j_callS (n := 5) (As := [.ref (ad 24), .int a1, .int a2, .int a3, .int a4]) C (c_X10_addThree_r24 C.2.2.2.2.2.2.1 a1 a2 a3 a4 S h1) tw_753 tw_754 tw_81 tw_755 (by decide +kernel) rfl hfr hlo hst rfl d (K _ h2)
set_option maxRecDepth 100000 in
theorem p_X10_addNote_e {X : jX} {D : va_G} {ad : Nat → Nat} {cy : Nat → ClassId} (C : jC X (jMain D ad cy) RX10 cX10_addNote (none) 4 1 25) {z : jS} (Q : jRet X (jMain D ad cy) (none, z))  (x1 : Int32) (x2 : Int32) (x3 : Int32) (S : jS) (hE : f_X10_addNote_e  x1 x2 x3 S = some z) : jJ X (jMain D ad cy) 0 [(0, .ref (ad 21)), (1, .int x1), (2, .int x2), (3, .int x3)] [] S := by
  unfold f_X10_addNote_e at hE
  refine j_aload_n C dX10_addNote_0 0 rfl ?_
  refine g_X10_18_21 C dX10_addNote_1 ?_
  refine j_aload_n C dX10_addNote_4 0 rfl ?_
  refine g_X10_31_21 C dX10_addNote_5 ?_
  refine j_iload_n C dX10_addNote_8 1 rfl ?_
  refine j_iload_n C dX10_addNote_9 2 rfl ?_
  refine j_iload_n C dX10_addNote_10 3 rfl ?_
  refine k_X10_43_X10_addThree_r24 C dX10_addNote_11 hE (Nat.le_of_ble_eq_true rfl) (Nat.le_of_ble_eq_true rfl) (Nat.le_of_ble_eq_true rfl) (fun S1 hE => ?_)
  refine j_aload_n C dX10_addNote_14 0 rfl ?_
  refine j_dup C dX10_addNote_15 rfl ?_
  refine g_X10_31_21 C dX10_addNote_16 ?_
  refine j_iconst (v := 1) C dX10_addNote_19 jc_ic_1 ?_
  refine j_iadd C dX10_addNote_20 ?_
  refine p_X10_31_21 C dX10_addNote_21 hE (fun S2 hE => ?_)
  exact j_vret C Q dX10_addNote_24 hE
theorem c_X10_addNote {l : Launch} {D : va_G} {ad : Nat → Nat} {cy : Nat → ClassId} (hO : jOk (jMain D ad cy)) (x1 : Int32) (x2 : Int32) (x3 : Int32) (S : jS) {z : jS} (hz : f_X10_addNote x1 x2 x3 S = some z) : Met l yX10_addNote (.code yX10_addNote cX10_addNote 4 (none) :: jT) { frames := 1, cells := 0, slots := 0, locals := 25 } (va_Pc [.ref (ad 21), .int x1, .int x2, .int x3] (jInv (jMain D ad cy) S)) (jQ (jMain D ad cy) (none, z)) 0 0 (yA (jMain D ad cy)) :=
  jMet hO (by decide +kernel) rfl (Nat.le_of_ble_eq_true rfl) (fun X _ C Q => p_X10_addNote_e C Q x1 x2 x3 S hz)
theorem k_X11_234_X10_addNote {X : jX} {D : va_G} {ad : Nat → Nat} {cy : Nat → ClassId} {cc : ByteArray} {ret : Option FieldType} {nL fr lo pc : Nat} {lv : List (Nat × Value)} {st : List Value} {S : jS} {β : Type} {z : β} (C : jC X (jMain D ad cy) RX11 cc ret nL fr lo) {a0 : Int32} {a1 : Int32} {a2 : Int32} {E : jS → Option β} (d : decode cc pc = .ok (.invokevirtual 234, 3)) (hE : jcv (f_X10_addNote a0 a1 a2 S) E = some z) (hfr : 2 ≤ fr) (hlo : 48 ≤ lo) (hst : (st.map fun v => v.category).sum ≤ 8) (K : ∀ S1, E S1 = some z → jJ X (jMain D ad cy) (pc + 3) lv st S1) : jJ X (jMain D ad cy) pc lv (.int a2 :: .int a1 :: .int a0 :: .ref (ad 21) :: st) S := by
  obtain ⟨v, h1, h2⟩ := jcv_some hE
  exact j_callV (k := 21) (ci := 10) (T := TX10) (N := 8) (n := 3) (As := [.int a0, .int a1, .int a2]) C (c_X10_addNote C.2.2.2.2.2.2.1 a0 a1 a2 S h1) tw_781 tw_782 tw_783 tw_81 tw_784 (by decide +kernel) rfl (by decide : 21 < 56) rfl rfl hfr hlo hst rfl d (K _ h2)
set_option maxRecDepth 100000 in
theorem p_X11_note_21 {X : jX} {D : va_G} {ad : Nat → Nat} {cy : Nat → ClassId} (C : jC X (jMain D ad cy) RX11 cX11_note (some .int) 4 2 48) {z : Int32 × jS} (Q : jRet X (jMain D ad cy) (some (.int z.1), z.2))   (S : jS) (hE : f_X11_note_21   S = some z) : jJ X (jMain D ad cy) 21 [(0, .ref (ad 0))] [] S := by
  unfold f_X11_note_21 at hE
  refine j_aload_n C dX11_note_21 0 rfl ?_
  refine k_X11_74_X11_refuseBad C dX11_note_22 hE (Nat.le_of_ble_eq_true rfl) (Nat.le_of_ble_eq_true rfl) (Nat.le_of_ble_eq_true rfl) (fun v2 S1 hE => ?_)
  exact j_iret C Q dX11_note_25 hE
set_option maxRecDepth 100000 in
theorem p_X11_note_e {X : jX} {D : va_G} {ad : Nat → Nat} {cy : Nat → ClassId} (C : jC X (jMain D ad cy) RX11 cX11_note (some .int) 4 2 48) {z : Int32 × jS} (Q : jRet X (jMain D ad cy) (some (.int z.1), z.2))  (x1 : Int32) (x2 : Int32) (x3 : Int32) (S : jS) (hE : f_X11_note_e  x1 x2 x3 S = some z) : jJ X (jMain D ad cy) 0 [(0, .ref (ad 0)), (1, .int x1), (2, .int x2), (3, .int x3)] [] S := by
  unfold f_X11_note_e at hE
  refine j_iload_n C dX11_note_0 1 rfl ?_
  refine k_X11_153_X11_isNumber C dX11_note_1 hE (Nat.le_of_ble_eq_true rfl) (Nat.le_of_ble_eq_true rfl) (Nat.le_of_ble_eq_true rfl) (fun v2 S1 hE => ?_)
  refine j_if_eq (tgt := 21) C dX11_note_4 rfl hE (fun hE => ?_) (fun hE => ?_)
  · refine j_sub [0] rfl ?_
    exact p_X11_note_21 C Q   S1 hE
  · refine j_iload_n C dX11_note_7 2 rfl ?_
    refine k_X11_153_X11_isNumber C dX11_note_8 hE (Nat.le_of_ble_eq_true rfl) (Nat.le_of_ble_eq_true rfl) (Nat.le_of_ble_eq_true rfl) (fun v4 S3 hE => ?_)
    refine j_if_eq (tgt := 21) C dX11_note_11 rfl hE (fun hE => ?_) (fun hE => ?_)
    · refine j_sub [0] rfl ?_
      exact p_X11_note_21 C Q   S3 hE
    · refine j_iload_n C dX11_note_14 3 rfl ?_
      refine k_X11_160_X11_isBit C dX11_note_15 hE (Nat.le_of_ble_eq_true rfl) (Nat.le_of_ble_eq_true rfl) (Nat.le_of_ble_eq_true rfl) (fun v6 S5 hE => ?_)
      refine j_if_ne (tgt := 26) C dX11_note_18 rfl hE (fun hE => ?_) (fun hE => ?_)
      · refine j_aload_n C dX11_note_26 0 rfl ?_
        refine g_X11_44_0 C dX11_note_27 ?_
        refine g_X11_231_21 C dX11_note_30 ?_
        refine j_bipush (v := 8) C dX11_note_33 jc_bp_8 ?_
        refine j_icmp_lt (tgt := 43) C dX11_note_35 rfl hE (fun hE => ?_) (fun hE => ?_)
        · refine j_aload_n C dX11_note_43 0 rfl ?_
          refine g_X11_44_0 C dX11_note_44 ?_
          refine j_iload_n C dX11_note_47 1 rfl ?_
          refine j_iload_n C dX11_note_48 2 rfl ?_
          refine j_iload_n C dX11_note_49 3 rfl ?_
          refine k_X11_234_X10_addNote C dX11_note_50 hE (Nat.le_of_ble_eq_true rfl) (Nat.le_of_ble_eq_true rfl) (Nat.le_of_ble_eq_true rfl) (fun S7 hE => ?_)
          refine j_aload_n C dX11_note_53 0 rfl ?_
          refine g_X11_44_0 C dX11_note_54 ?_
          refine g_X11_231_21 C dX11_note_57 ?_
          exact j_iret C Q dX11_note_60 hE
        · refine j_aload_n C dX11_note_38 0 rfl ?_
          refine k_X11_109_X11_refuseFull C dX11_note_39 hE (Nat.le_of_ble_eq_true rfl) (Nat.le_of_ble_eq_true rfl) (Nat.le_of_ble_eq_true rfl) (fun v9 S8 hE => ?_)
          exact j_iret C Q dX11_note_42 hE
      · refine j_sub [0] rfl ?_
        exact p_X11_note_21 C Q   S5 hE
theorem c_X11_note {l : Launch} {D : va_G} {ad : Nat → Nat} {cy : Nat → ClassId} (hO : jOk (jMain D ad cy)) (x1 : Int32) (x2 : Int32) (x3 : Int32) (S : jS) {z : Int32 × jS} (hz : f_X11_note x1 x2 x3 S = some z) : Met l yX11_note (.code yX11_note cX11_note 4 (some .int) :: jT) { frames := 2, cells := 0, slots := 0, locals := 48 } (va_Pc [.ref (ad 0), .int x1, .int x2, .int x3] (jInv (jMain D ad cy) S)) (jQ (jMain D ad cy) (some (.int z.1), z.2)) 0 0 (yA (jMain D ad cy)) :=
  jMet hO (by decide +kernel) rfl (Nat.le_of_ble_eq_true rfl) (fun X _ C Q => p_X11_note_e C Q x1 x2 x3 S hz)
set_option maxRecDepth 100000 in
theorem p_X12_isLawSo_81 {X : jX} {D : va_G} {ad : Nat → Nat} {cy : Nat → ClassId} (C : jC X (jMain D ad cy) RX12 cX12_isLawSo (some .boolean) 5 2 48) {z : Int32 × jS} (Q : jRet X (jMain D ad cy) (some (.int z.1), z.2)) {g : Int32 → Int32 → Int32 → jS → Option (Int32 × jS)} (hg : ∀ (x1 : Int32) (x2 : Int32) (x3 : Int32) (S : jS), g x1 x2 x3 S = some z → jJ X (jMain D ad cy) 4 [(0, .ref (ad 41)), (1, .int x1), (2, .int x2), (3, .int x3)] [] S) {k88 : Int32 → jS → Option (Int32 × jS)} (hk88 : ∀ (x2 : Int32) (S : jS), k88 x2 S = some z → jJ X (jMain D ad cy) 88 [(2, .int x2)] [] S) (a0 : Int32) (x1 : Int32) (x3 : Int32) (S : jS) (hE : f_X12_isLawSo_81 g k88 a0 x1 x3 S = some z) : jJ X (jMain D ad cy) 81 [(0, .ref (ad 41)), (1, .int x1), (3, .int x3)] [.int a0] S := by
  unfold f_X12_isLawSo_81 at hE
  refine j_istore_n (i := 2) (lv' := [(2, .int a0), (0, .ref (ad 41)), (1, .int x1), (3, .int x3)]) C dX12_isLawSo_81 rfl (by decide) rfl ?_
  refine j_iinc (v := (x3 + 1)) (lv' := [(3, .int (x3 + 1)), (2, .int a0), (0, .ref (ad 41)), (1, .int x1)]) C dX12_isLawSo_82 3 rfl (congrArg (fun w => x3 + w) jc_ic_1) (by decide) rfl ?_
  refine j_goto (tgt := 4) C dX12_isLawSo_85 rfl ?_
  refine j_sub [2, 3, 1, 0] rfl ?_
  exact hg x1 a0 (x3 + 1) S hE
set_option maxRecDepth 100000 in
theorem p_X12_isLawSo_80 {X : jX} {D : va_G} {ad : Nat → Nat} {cy : Nat → ClassId} (C : jC X (jMain D ad cy) RX12 cX12_isLawSo (some .boolean) 5 2 48) {z : Int32 × jS} (Q : jRet X (jMain D ad cy) (some (.int z.1), z.2)) {g : Int32 → Int32 → Int32 → jS → Option (Int32 × jS)} (hg : ∀ (x1 : Int32) (x2 : Int32) (x3 : Int32) (S : jS), g x1 x2 x3 S = some z → jJ X (jMain D ad cy) 4 [(0, .ref (ad 41)), (1, .int x1), (2, .int x2), (3, .int x3)] [] S) {k88 : Int32 → jS → Option (Int32 × jS)} (hk88 : ∀ (x2 : Int32) (S : jS), k88 x2 S = some z → jJ X (jMain D ad cy) 88 [(2, .int x2)] [] S) (x1 : Int32) (x3 : Int32) (S : jS) (hE : f_X12_isLawSo_80 g k88 x1 x3 S = some z) : jJ X (jMain D ad cy) 80 [(0, .ref (ad 41)), (1, .int x1), (3, .int x3)] [] S := by
  unfold f_X12_isLawSo_80 at hE
  refine j_iconst (v := 0) C dX12_isLawSo_80 jc_ic_0 ?_
  exact p_X12_isLawSo_81 C Q hg hk88 0 x1 x3 S hE
set_option maxRecDepth 100000 in
theorem p_X12_isLawSo_73 {X : jX} {D : va_G} {ad : Nat → Nat} {cy : Nat → ClassId} (C : jC X (jMain D ad cy) RX12 cX12_isLawSo (some .boolean) 5 2 48) {z : Int32 × jS} (Q : jRet X (jMain D ad cy) (some (.int z.1), z.2)) {g : Int32 → Int32 → Int32 → jS → Option (Int32 × jS)} (hg : ∀ (x1 : Int32) (x2 : Int32) (x3 : Int32) (S : jS), g x1 x2 x3 S = some z → jJ X (jMain D ad cy) 4 [(0, .ref (ad 41)), (1, .int x1), (2, .int x2), (3, .int x3)] [] S) {k88 : Int32 → jS → Option (Int32 × jS)} (hk88 : ∀ (x2 : Int32) (S : jS), k88 x2 S = some z → jJ X (jMain D ad cy) 88 [(2, .int x2)] [] S) (a0 : Int32) (a1 : Int32) (x1 : Int32) (x3 : Int32) (S : jS) (hE : f_X12_isLawSo_73 g k88 a0 a1 x1 x3 S = some z) : jJ X (jMain D ad cy) 73 [(0, .ref (ad 41)), (1, .int x1), (3, .int x3)] [.int a0, .int a1] S := by
  unfold f_X12_isLawSo_73 at hE
  refine j_icmp_ne (tgt := 80) C dX12_isLawSo_73 rfl hE (fun hE => ?_) (fun hE => ?_)
  · exact p_X12_isLawSo_80 C Q hg hk88 x1 x3 S hE
  · refine j_iconst (v := 1) C dX12_isLawSo_76 jc_ic_1 ?_
    refine j_goto (tgt := 81) C dX12_isLawSo_77 rfl ?_
    exact p_X12_isLawSo_81 C Q hg hk88 1 x1 x3 S hE
set_option maxRecDepth 100000 in
theorem p_X12_isLawSo_4 {X : jX} {D : va_G} {ad : Nat → Nat} {cy : Nat → ClassId} (C : jC X (jMain D ad cy) RX12 cX12_isLawSo (some .boolean) 5 2 48) {z : Int32 × jS} (Q : jRet X (jMain D ad cy) (some (.int z.1), z.2)) {g : Int32 → Int32 → Int32 → jS → Option (Int32 × jS)} (hg : ∀ (x1 : Int32) (x2 : Int32) (x3 : Int32) (S : jS), g x1 x2 x3 S = some z → jJ X (jMain D ad cy) 4 [(0, .ref (ad 41)), (1, .int x1), (2, .int x2), (3, .int x3)] [] S) {k88 : Int32 → jS → Option (Int32 × jS)} (hk88 : ∀ (x2 : Int32) (S : jS), k88 x2 S = some z → jJ X (jMain D ad cy) 88 [(2, .int x2)] [] S) (x1 : Int32) (x2 : Int32) (x3 : Int32) (S : jS) (hE : f_X12_isLawSo_4 g k88 x1 x2 x3 S = some z) : jJ X (jMain D ad cy) 4 [(0, .ref (ad 41)), (1, .int x1), (2, .int x2), (3, .int x3)] [] S := by
  unfold f_X12_isLawSo_4 at hE
  refine j_iload_n C dX12_isLawSo_4 3 rfl ?_
  refine j_aload_n C dX12_isLawSo_5 0 rfl ?_
  refine g_X12_7_41 C dX12_isLawSo_6 ?_
  refine j_bipush (v := 11) C dX12_isLawSo_9 jc_bp_11 ?_
  refine l_42 C dX12_isLawSo_11 hE (fun v1 hE => ?_)
  refine j_icmp_ge (tgt := 88) C dX12_isLawSo_12 rfl hE (fun hE => ?_) (fun hE => ?_)
  · refine j_sub [2] rfl ?_
    exact hk88 x2 S hE
  · refine j_bipush (v := 45) C dX12_isLawSo_15 jc_bp_45 ?_
    refine j_iconst (v := 3) C dX12_isLawSo_17 jc_ic_3 ?_
    refine j_iload_n C dX12_isLawSo_18 3 rfl ?_
    refine j_imul C dX12_isLawSo_19 ?_
    refine j_iadd C dX12_isLawSo_20 ?_
    refine j_istore (lv' := [(4, .int (45 + (3 * x3))), (0, .ref (ad 41)), (1, .int x1), (2, .int x2), (3, .int x3)]) C dX12_isLawSo_21 (by decide) rfl ?_
    refine j_iload_n C dX12_isLawSo_23 3 rfl ?_
    refine j_if_eq (tgt := 80) C dX12_isLawSo_24 rfl hE (fun hE => ?_) (fun hE => ?_)
    · refine j_sub [1, 2, 4] rfl ?_
      exact p_X12_isLawSo_80 C Q hg hk88 x1 x3 S hE
    · refine j_aload_n C dX12_isLawSo_27 1 rfl ?_
      refine j_iload_n C dX12_isLawSo_28 2 rfl ?_
      refine j_bipush (v := 10) C dX12_isLawSo_29 jc_bp_10 ?_
      refine j_idiv C dX12_isLawSo_31 hE (fun v2 hE => ?_)
      refine j_iload_n C dX12_isLawSo_32 2 rfl ?_
      refine j_bipush (v := 10) C dX12_isLawSo_33 jc_bp_10 ?_
      refine j_irem C dX12_isLawSo_35 hE (fun v3 hE => ?_)
      refine j_aload_n C dX12_isLawSo_36 1 rfl ?_
      refine g_X12_7_41 C dX12_isLawSo_37 ?_
      refine j_iload C dX12_isLawSo_40 0 rfl ?_
      refine l_42 C dX12_isLawSo_42 hE (fun v4 hE => ?_)
      refine j_aload_n C dX12_isLawSo_43 1 rfl ?_
      refine g_X12_7_41 C dX12_isLawSo_44 ?_
      refine j_iload C dX12_isLawSo_47 0 rfl ?_
      refine j_iconst (v := 1) C dX12_isLawSo_49 jc_ic_1 ?_
      refine j_iadd C dX12_isLawSo_50 ?_
      refine l_42 C dX12_isLawSo_51 hE (fun v5 hE => ?_)
      refine k_X12_80_X12_mayBy C dX12_isLawSo_52 hE (Nat.le_of_ble_eq_true rfl) (Nat.le_of_ble_eq_true rfl) (Nat.le_of_ble_eq_true rfl) (fun v7 S6 hE => ?_)
      refine j_aload_n C dX12_isLawSo_55 1 rfl ?_
      refine g_X12_7_41 C dX12_isLawSo_56 ?_
      refine j_iload C dX12_isLawSo_59 0 rfl ?_
      refine j_iconst (v := 2) C dX12_isLawSo_61 jc_ic_2 ?_
      refine j_iadd C dX12_isLawSo_62 ?_
      refine l_42 C dX12_isLawSo_63 hE (fun v8 hE => ?_)
      refine j_iconst (v := 1) C dX12_isLawSo_64 jc_ic_1 ?_
      refine j_icmp_ne (tgt := 72) C dX12_isLawSo_65 rfl hE (fun hE => ?_) (fun hE => ?_)
      · refine j_iconst (v := 0) C dX12_isLawSo_72 jc_ic_0 ?_
        refine j_sub [1, 2, 4] rfl ?_
        exact p_X12_isLawSo_73 C Q hg hk88 0 v7 x1 x3 S6 hE
      · refine j_iconst (v := 1) C dX12_isLawSo_68 jc_ic_1 ?_
        refine j_goto (tgt := 73) C dX12_isLawSo_69 rfl ?_
        refine j_sub [1, 2, 4] rfl ?_
        exact p_X12_isLawSo_73 C Q hg hk88 1 v7 x1 x3 S6 hE
theorem q_X12_isLawSo_4 {X : jX} {D : va_G} {ad : Nat → Nat} {cy : Nat → ClassId} (C : jC X (jMain D ad cy) RX12 cX12_isLawSo (some .boolean) 5 2 48) {z : Int32 × jS} (Q : jRet X (jMain D ad cy) (some (.int z.1), z.2)) {k88 : Int32 → jS → Option (Int32 × jS)} (hk88 : ∀ (x2 : Int32) (S : jS), k88 x2 S = some z → jJ X (jMain D ad cy) 88 [(2, .int x2)] [] S) (x1 : Int32) (x2 : Int32) (x3 : Int32) (S : jS) (hE : lp_X12_isLawSo_4 k88 x1 x2 x3 S = some z) : jJ X (jMain D ad cy) 4 [(0, .ref (ad 41)), (1, .int x1), (2, .int x2), (3, .int x3)] [] S :=
  jloop_P (α := Int32 × Int32 × Int32 × jS) (B := (fun g q => f_X12_isLawSo_4 (fun x1 x2 x3 S => g (x1, x2, x3, S)) k88 q.1 q.2.1 q.2.2.1 q.2.2.2)) (P := fun q => jJ X (jMain D ad cy) 4 [(0, .ref (ad 41)), (1, .int q.1), (2, .int q.2.1), (3, .int q.2.2.1)] [] q.2.2.2) (fun g q hg h => p_X12_isLawSo_4 C Q (g := fun x1 x2 x3 S => g (x1, x2, x3, S)) (fun x1 x2 x3 S h => hg (x1, x2, x3, S) h) hk88 q.1 q.2.1 q.2.2.1 q.2.2.2 h) jN (x1, x2, x3, S) hE
set_option maxRecDepth 100000 in
theorem p_X12_isLawSo_88 {X : jX} {D : va_G} {ad : Nat → Nat} {cy : Nat → ClassId} (C : jC X (jMain D ad cy) RX12 cX12_isLawSo (some .boolean) 5 2 48) {z : Int32 × jS} (Q : jRet X (jMain D ad cy) (some (.int z.1), z.2))  (x2 : Int32) (S : jS) (hE : f_X12_isLawSo_88  x2 S = some z) : jJ X (jMain D ad cy) 88 [(2, .int x2)] [] S := by
  unfold f_X12_isLawSo_88 at hE
  refine j_iload_n C dX12_isLawSo_88 0 rfl ?_
  exact j_zret C Q dX12_isLawSo_89 hE
set_option maxRecDepth 100000 in
theorem p_X12_isLawSo_e {X : jX} {D : va_G} {ad : Nat → Nat} {cy : Nat → ClassId} (C : jC X (jMain D ad cy) RX12 cX12_isLawSo (some .boolean) 5 2 48) {z : Int32 × jS} (Q : jRet X (jMain D ad cy) (some (.int z.1), z.2))  (x1 : Int32) (S : jS) (hE : f_X12_isLawSo_e  x1 S = some z) : jJ X (jMain D ad cy) 0 [(0, .ref (ad 41)), (1, .int x1)] [] S := by
  unfold f_X12_isLawSo_e at hE
  refine j_iconst (v := 1) C dX12_isLawSo_0 jc_ic_1 ?_
  refine j_istore_n (i := 2) (lv' := [(2, .int 1), (0, .ref (ad 41)), (1, .int x1)]) C dX12_isLawSo_1 rfl (by decide) rfl ?_
  refine j_iconst (v := 0) C dX12_isLawSo_2 jc_ic_0 ?_
  refine j_istore_n (i := 3) (lv' := [(3, .int 0), (2, .int 1), (0, .ref (ad 41)), (1, .int x1)]) C dX12_isLawSo_3 rfl (by decide) rfl ?_
  refine j_sub [2, 3, 1, 0] rfl ?_
  exact q_X12_isLawSo_4 C Q (p_X12_isLawSo_88 C Q ) x1 1 0 S hE
theorem c_X12_isLawSo {l : Launch} {D : va_G} {ad : Nat → Nat} {cy : Nat → ClassId} (hO : jOk (jMain D ad cy)) (x1 : Int32) (S : jS) {z : Int32 × jS} (hz : f_X12_isLawSo x1 S = some z) : Met l yX12_isLawSo (.code yX12_isLawSo cX12_isLawSo 5 (some .boolean) :: jT) { frames := 2, cells := 0, slots := 0, locals := 48 } (va_Pc [.ref (ad 41), .int x1] (jInv (jMain D ad cy) S)) (jQ (jMain D ad cy) (some (.int z.1), z.2)) 0 0 (yA (jMain D ad cy)) :=
  jMet hO (by decide +kernel) rfl (Nat.le_of_ble_eq_true rfl) (fun X _ C Q => p_X12_isLawSo_e C Q x1 S hz)
theorem k_X12_204_X12_isLawSo {X : jX} {D : va_G} {ad : Nat → Nat} {cy : Nat → ClassId} {cc : ByteArray} {ret : Option FieldType} {nL fr lo pc : Nat} {lv : List (Nat × Value)} {st : List Value} {S : jS} {β : Type} {z : β} (C : jC X (jMain D ad cy) RX12 cc ret nL fr lo) {a0 : Int32} {E : Int32 → jS → Option β} (d : decode cc pc = .ok (.invokevirtual 204, 3)) (hE : jcl (f_X12_isLawSo a0 S) E = some z) (hfr : 3 ≤ fr) (hlo : 72 ≤ lo) (hst : (st.map fun v => v.category).sum ≤ 8) (K : ∀ (v : Int32) (S1 : jS), E v S1 = some z → jJ X (jMain D ad cy) (pc + 3) lv (.int v :: st) S1) : jJ X (jMain D ad cy) pc lv (.int a0 :: .ref (ad 41) :: st) S := by
  obtain ⟨v, h1, h2⟩ := jcl_some hE
  exact j_callV (k := 41) (ci := 12) (T := TX12) (N := 25) (n := 1) (As := [.int a0]) C (c_X12_isLawSo C.2.2.2.2.2.2.1 a0 S h1) tw_1184 tw_1186 tw_60 tw_82 tw_1187 (by decide +kernel) rfl (by decide : 41 < 56) rfl rfl hfr hlo hst rfl d (K _ _ h2)
set_option maxRecDepth 100000 in
theorem p_X12_laws_66 {X : jX} {D : va_G} {ad : Nat → Nat} {cy : Nat → ClassId} (C : jC X (jMain D ad cy) RX12 cX12_laws (some .int) 6 3 72) {z : Int32 × jS} (Q : jRet X (jMain D ad cy) (some (.int z.1), z.2)) {g : Int32 → Int32 → Int32 → Int32 → jS → Option (Int32 × jS)} (hg : ∀ (x1 : Int32) (x2 : Int32) (x3 : Int32) (x4 : Int32) (S : jS), g x1 x2 x3 x4 S = some z → jJ X (jMain D ad cy) 24 [(0, .ref (ad 41)), (1, .int x1), (2, .int x2), (3, .int x3), (4, .int x4)] [] S) {k74 : Int32 → Int32 → Int32 → jS → Option (Int32 × jS)} (hk74 : ∀ (x1 : Int32) (x2 : Int32) (x3 : Int32) (S : jS), k74 x1 x2 x3 S = some z → jJ X (jMain D ad cy) 74 [(1, .int x1), (2, .int x2), (3, .int x3)] [] S) (a0 : Int32) (a1 : Int32) (x1 : Int32) (x3 : Int32) (x4 : Int32) (S : jS) (hE : f_X12_laws_66 g k74 a0 a1 x1 x3 x4 S = some z) : jJ X (jMain D ad cy) 66 [(0, .ref (ad 41)), (1, .int x1), (3, .int x3), (4, .int x4)] [.int a0, .int a1] S := by
  unfold f_X12_laws_66 at hE
  refine j_iadd C dX12_laws_66 ?_
  refine j_istore_n (i := 2) (lv' := [(2, .int (a1 + a0)), (0, .ref (ad 41)), (1, .int x1), (3, .int x3), (4, .int x4)]) C dX12_laws_67 rfl (by decide) rfl ?_
  refine j_iinc (v := (x4 + 1)) (lv' := [(4, .int (x4 + 1)), (2, .int (a1 + a0)), (0, .ref (ad 41)), (1, .int x1), (3, .int x3)]) C dX12_laws_68 4 rfl (congrArg (fun w => x4 + w) jc_ic_1) (by decide) rfl ?_
  refine j_goto (tgt := 24) C dX12_laws_71 rfl ?_
  refine j_sub [2, 3, 1, 4, 0] rfl ?_
  exact hg x1 (a1 + a0) x3 (x4 + 1) S hE
set_option maxRecDepth 100000 in
theorem p_X12_laws_54 {X : jX} {D : va_G} {ad : Nat → Nat} {cy : Nat → ClassId} (C : jC X (jMain D ad cy) RX12 cX12_laws (some .int) 6 3 72) {z : Int32 × jS} (Q : jRet X (jMain D ad cy) (some (.int z.1), z.2)) {g : Int32 → Int32 → Int32 → Int32 → jS → Option (Int32 × jS)} (hg : ∀ (x1 : Int32) (x2 : Int32) (x3 : Int32) (x4 : Int32) (S : jS), g x1 x2 x3 x4 S = some z → jJ X (jMain D ad cy) 24 [(0, .ref (ad 41)), (1, .int x1), (2, .int x2), (3, .int x3), (4, .int x4)] [] S) {k74 : Int32 → Int32 → Int32 → jS → Option (Int32 × jS)} (hk74 : ∀ (x1 : Int32) (x2 : Int32) (x3 : Int32) (S : jS), k74 x1 x2 x3 S = some z → jJ X (jMain D ad cy) 74 [(1, .int x1), (2, .int x2), (3, .int x3)] [] S) (a0 : Int32) (x1 : Int32) (x2 : Int32) (x4 : Int32) (x5 : Int32) (S : jS) (hE : f_X12_laws_54 g k74 a0 x1 x2 x4 x5 S = some z) : jJ X (jMain D ad cy) 54 [(0, .ref (ad 41)), (1, .int x1), (2, .int x2), (4, .int x4), (5, .int x5)] [.int a0] S := by
  unfold f_X12_laws_54 at hE
  refine j_istore_n (i := 3) (lv' := [(3, .int a0), (0, .ref (ad 41)), (1, .int x1), (2, .int x2), (4, .int x4), (5, .int x5)]) C dX12_laws_54 rfl (by decide) rfl ?_
  refine j_iload_n C dX12_laws_55 3 rfl ?_
  refine j_iload C dX12_laws_56 5 rfl ?_
  refine j_if_eq (tgt := 65) C dX12_laws_58 rfl hE (fun hE => ?_) (fun hE => ?_)
  · refine j_iconst (v := 0) C dX12_laws_65 jc_ic_0 ?_
    refine j_sub [1, 2, 0, 4] rfl ?_
    exact p_X12_laws_66 C Q hg hk74 0 x2 x1 a0 x4 S hE
  · refine j_iconst (v := 1) C dX12_laws_61 jc_ic_1 ?_
    refine j_goto (tgt := 66) C dX12_laws_62 rfl ?_
    refine j_sub [1, 2, 0, 4] rfl ?_
    exact p_X12_laws_66 C Q hg hk74 1 x2 x1 a0 x4 S hE
set_option maxRecDepth 100000 in
theorem p_X12_laws_53 {X : jX} {D : va_G} {ad : Nat → Nat} {cy : Nat → ClassId} (C : jC X (jMain D ad cy) RX12 cX12_laws (some .int) 6 3 72) {z : Int32 × jS} (Q : jRet X (jMain D ad cy) (some (.int z.1), z.2)) {g : Int32 → Int32 → Int32 → Int32 → jS → Option (Int32 × jS)} (hg : ∀ (x1 : Int32) (x2 : Int32) (x3 : Int32) (x4 : Int32) (S : jS), g x1 x2 x3 x4 S = some z → jJ X (jMain D ad cy) 24 [(0, .ref (ad 41)), (1, .int x1), (2, .int x2), (3, .int x3), (4, .int x4)] [] S) {k74 : Int32 → Int32 → Int32 → jS → Option (Int32 × jS)} (hk74 : ∀ (x1 : Int32) (x2 : Int32) (x3 : Int32) (S : jS), k74 x1 x2 x3 S = some z → jJ X (jMain D ad cy) 74 [(1, .int x1), (2, .int x2), (3, .int x3)] [] S) (x1 : Int32) (x2 : Int32) (x3 : Int32) (x4 : Int32) (x5 : Int32) (S : jS) (hE : f_X12_laws_53 g k74 x1 x2 x3 x4 x5 S = some z) : jJ X (jMain D ad cy) 53 [(0, .ref (ad 41)), (1, .int x1), (2, .int x2), (3, .int x3), (4, .int x4), (5, .int x5)] [] S := by
  unfold f_X12_laws_53 at hE
  refine j_iload_n C dX12_laws_53 3 rfl ?_
  refine j_sub [0, 1, 2, 4, 5] rfl ?_
  exact p_X12_laws_54 C Q hg hk74 x3 x1 x2 x4 x5 S hE
set_option maxRecDepth 100000 in
theorem p_X12_laws_24 {X : jX} {D : va_G} {ad : Nat → Nat} {cy : Nat → ClassId} (C : jC X (jMain D ad cy) RX12 cX12_laws (some .int) 6 3 72) {z : Int32 × jS} (Q : jRet X (jMain D ad cy) (some (.int z.1), z.2)) {g : Int32 → Int32 → Int32 → Int32 → jS → Option (Int32 × jS)} (hg : ∀ (x1 : Int32) (x2 : Int32) (x3 : Int32) (x4 : Int32) (S : jS), g x1 x2 x3 x4 S = some z → jJ X (jMain D ad cy) 24 [(0, .ref (ad 41)), (1, .int x1), (2, .int x2), (3, .int x3), (4, .int x4)] [] S) {k74 : Int32 → Int32 → Int32 → jS → Option (Int32 × jS)} (hk74 : ∀ (x1 : Int32) (x2 : Int32) (x3 : Int32) (S : jS), k74 x1 x2 x3 S = some z → jJ X (jMain D ad cy) 74 [(1, .int x1), (2, .int x2), (3, .int x3)] [] S) (x1 : Int32) (x2 : Int32) (x3 : Int32) (x4 : Int32) (S : jS) (hE : f_X12_laws_24 g k74 x1 x2 x3 x4 S = some z) : jJ X (jMain D ad cy) 24 [(0, .ref (ad 41)), (1, .int x1), (2, .int x2), (3, .int x3), (4, .int x4)] [] S := by
  unfold f_X12_laws_24 at hE
  refine j_iload C dX12_laws_24 4 rfl ?_
  refine j_bipush (v := 60) C dX12_laws_26 jc_bp_60 ?_
  refine j_icmp_ge (tgt := 74) C dX12_laws_28 rfl hE (fun hE => ?_) (fun hE => ?_)
  · refine j_sub [1, 2, 3] rfl ?_
    exact hk74 x1 x2 x3 S hE
  · refine j_aload_n C dX12_laws_31 0 rfl ?_
    refine j_iload C dX12_laws_32 4 rfl ?_
    refine k_X12_204_X12_isLawSo C dX12_laws_34 hE (Nat.le_of_ble_eq_true rfl) (Nat.le_of_ble_eq_true rfl) (Nat.le_of_ble_eq_true rfl) (fun v2 S1 hE => ?_)
    refine j_istore (lv' := [(5, .int v2), (0, .ref (ad 41)), (1, .int x1), (2, .int x2), (3, .int x3), (4, .int x4)]) C dX12_laws_37 (by decide) rfl ?_
    refine j_iload C dX12_laws_39 0 rfl ?_
    refine j_if_eq (tgt := 53) C dX12_laws_41 rfl hE (fun hE => ?_) (fun hE => ?_)
    · refine j_sub [1, 2, 3, 4, 5, 0] rfl ?_
      exact p_X12_laws_53 C Q hg hk74 x1 x2 x3 x4 v2 S1 hE
    · refine j_iload_n C dX12_laws_44 3 rfl ?_
      refine j_if_ne (tgt := 53) C dX12_laws_45 rfl hE (fun hE => ?_) (fun hE => ?_)
      · refine j_sub [1, 2, 3, 4, 5, 0] rfl ?_
        exact p_X12_laws_53 C Q hg hk74 x1 x2 x3 x4 v2 S1 hE
      · refine j_iload C dX12_laws_48 5 rfl ?_
        refine j_goto (tgt := 54) C dX12_laws_50 rfl ?_
        refine j_sub [1, 2, 3, 5, 0] rfl ?_
        exact p_X12_laws_54 C Q hg hk74 x4 x1 x2 x4 v2 S1 hE
theorem q_X12_laws_24 {X : jX} {D : va_G} {ad : Nat → Nat} {cy : Nat → ClassId} (C : jC X (jMain D ad cy) RX12 cX12_laws (some .int) 6 3 72) {z : Int32 × jS} (Q : jRet X (jMain D ad cy) (some (.int z.1), z.2)) {k74 : Int32 → Int32 → Int32 → jS → Option (Int32 × jS)} (hk74 : ∀ (x1 : Int32) (x2 : Int32) (x3 : Int32) (S : jS), k74 x1 x2 x3 S = some z → jJ X (jMain D ad cy) 74 [(1, .int x1), (2, .int x2), (3, .int x3)] [] S) (x1 : Int32) (x2 : Int32) (x3 : Int32) (x4 : Int32) (S : jS) (hE : lp_X12_laws_24 k74 x1 x2 x3 x4 S = some z) : jJ X (jMain D ad cy) 24 [(0, .ref (ad 41)), (1, .int x1), (2, .int x2), (3, .int x3), (4, .int x4)] [] S :=
  jloop_P (α := Int32 × Int32 × Int32 × Int32 × jS) (B := (fun g q => f_X12_laws_24 (fun x1 x2 x3 x4 S => g (x1, x2, x3, x4, S)) k74 q.1 q.2.1 q.2.2.1 q.2.2.2.1 q.2.2.2.2)) (P := fun q => jJ X (jMain D ad cy) 24 [(0, .ref (ad 41)), (1, .int q.1), (2, .int q.2.1), (3, .int q.2.2.1), (4, .int q.2.2.2.1)] [] q.2.2.2.2) (fun g q hg h => p_X12_laws_24 C Q (g := fun x1 x2 x3 x4 S => g (x1, x2, x3, x4, S)) (fun x1 x2 x3 x4 S h => hg (x1, x2, x3, x4, S) h) hk74 q.1 q.2.1 q.2.2.1 q.2.2.2.1 q.2.2.2.2 h) jN (x1, x2, x3, x4, S) hE
set_option maxRecDepth 100000 in
theorem p_X12_laws_83 {X : jX} {D : va_G} {ad : Nat → Nat} {cy : Nat → ClassId} (C : jC X (jMain D ad cy) RX12 cX12_laws (some .int) 6 3 72) {z : Int32 × jS} (Q : jRet X (jMain D ad cy) (some (.int z.1), z.2))  (a0 : Int32) (S : jS) (hE : f_X12_laws_83  a0 S = some z) : jJ X (jMain D ad cy) 83 [] [.int a0] S := by
  unfold f_X12_laws_83 at hE
  exact j_iret C Q dX12_laws_83 hE
set_option maxRecDepth 100000 in
theorem p_X12_laws_74 {X : jX} {D : va_G} {ad : Nat → Nat} {cy : Nat → ClassId} (C : jC X (jMain D ad cy) RX12 cX12_laws (some .int) 6 3 72) {z : Int32 × jS} (Q : jRet X (jMain D ad cy) (some (.int z.1), z.2))  (x1 : Int32) (x2 : Int32) (x3 : Int32) (S : jS) (hE : f_X12_laws_74  x1 x2 x3 S = some z) : jJ X (jMain D ad cy) 74 [(1, .int x1), (2, .int x2), (3, .int x3)] [] S := by
  unfold f_X12_laws_74 at hE
  refine j_iload_n C dX12_laws_74 0 rfl ?_
  refine j_if_ne (tgt := 82) C dX12_laws_75 rfl hE (fun hE => ?_) (fun hE => ?_)
  · refine j_iload_n C dX12_laws_82 2 rfl ?_
    refine j_sub [] rfl ?_
    exact p_X12_laws_83 C Q  x3 S hE
  · refine j_iload_n C dX12_laws_78 1 rfl ?_
    refine j_goto (tgt := 83) C dX12_laws_79 rfl ?_
    refine j_sub [] rfl ?_
    exact p_X12_laws_83 C Q  x2 S hE
set_option maxRecDepth 100000 in
theorem p_X12_laws_e {X : jX} {D : va_G} {ad : Nat → Nat} {cy : Nat → ClassId} (C : jC X (jMain D ad cy) RX12 cX12_laws (some .int) 6 3 72) {z : Int32 × jS} (Q : jRet X (jMain D ad cy) (some (.int z.1), z.2))  (x1 : Int32) (S : jS) (hE : f_X12_laws_e  x1 S = some z) : jJ X (jMain D ad cy) 0 [(0, .ref (ad 41)), (1, .int x1)] [] S := by
  unfold f_X12_laws_e at hE
  refine j_iload_n C dX12_laws_0 1 rfl ?_
  refine j_i2l C dX12_laws_1 ?_
  refine j_lconst (v := 0) C dX12_laws_2 jc_lc_0 ?_
  refine j_lconst (v := 1) C dX12_laws_3 jc_lc_1 ?_
  refine k_X12_59_X12_in C dX12_laws_4 hE (Nat.le_of_ble_eq_true rfl) (Nat.le_of_ble_eq_true rfl) (Nat.le_of_ble_eq_true rfl) (fun v2 S1 hE => ?_)
  refine j_if_ne (tgt := 17) C dX12_laws_7 rfl hE (fun hE => ?_) (fun hE => ?_)
  · refine j_iconst (v := 0) C dX12_laws_17 jc_ic_0 ?_
    refine j_istore_n (i := 2) (lv' := [(2, .int 0), (0, .ref (ad 41)), (1, .int x1)]) C dX12_laws_18 rfl (by decide) rfl ?_
    refine j_iconst (v := (-1)) C dX12_laws_19 jc_ic_m1 ?_
    refine j_istore_n (i := 3) (lv' := [(3, .int (-1)), (2, .int 0), (0, .ref (ad 41)), (1, .int x1)]) C dX12_laws_20 rfl (by decide) rfl ?_
    refine j_iconst (v := 0) C dX12_laws_21 jc_ic_0 ?_
    refine j_istore (lv' := [(4, .int 0), (3, .int (-1)), (2, .int 0), (0, .ref (ad 41)), (1, .int x1)]) C dX12_laws_22 (by decide) rfl ?_
    refine j_sub [3, 4, 2, 1, 0] rfl ?_
    exact q_X12_laws_24 C Q (p_X12_laws_74 C Q ) x1 0 (-1) 0 S1 hE
  · refine j_aload_n C dX12_laws_10 0 rfl ?_
    refine j_bipush (v := (-10)) C dX12_laws_11 jc_bp_m10 ?_
    refine k_X12_87_X12_bad C dX12_laws_13 hE (Nat.le_of_ble_eq_true rfl) (Nat.le_of_ble_eq_true rfl) (Nat.le_of_ble_eq_true rfl) (fun v4 S3 hE => ?_)
    exact j_iret C Q dX12_laws_16 hE
theorem c_X12_laws {l : Launch} {D : va_G} {ad : Nat → Nat} {cy : Nat → ClassId} (hO : jOk (jMain D ad cy)) (x1 : Int32) (S : jS) {z : Int32 × jS} (hz : f_X12_laws x1 S = some z) : Met l yX12_laws (.code yX12_laws cX12_laws 6 (some .int) :: jT) { frames := 3, cells := 0, slots := 0, locals := 72 } (va_Pc [.ref (ad 41), .int x1] (jInv (jMain D ad cy) S)) (jQ (jMain D ad cy) (some (.int z.1), z.2)) 0 0 (yA (jMain D ad cy)) :=
  jMet hO (by decide +kernel) rfl (Nat.le_of_ble_eq_true rfl) (fun X _ C Q => p_X12_laws_e C Q x1 S hz)
set_option maxRecDepth 100000 in
theorem p_X11_agreesWithNotes_2 {X : jX} {D : va_G} {ad : Nat → Nat} {cy : Nat → ClassId} (C : jC X (jMain D ad cy) RX11 cX11_agreesWithNotes (some .boolean) 4 5 113) {z : Int32 × jS} (Q : jRet X (jMain D ad cy) (some (.int z.1), z.2)) {g : Int32 → Int32 → jS → Option (Int32 × jS)} (hg : ∀ (x1 : Int32) (x2 : Int32) (S : jS), g x1 x2 S = some z → jJ X (jMain D ad cy) 2 [(0, .ref (ad 0)), (1, .int x1), (2, .int x2)] [] S) {k72 : jS → Option (Int32 × jS)} (hk72 : ∀  (S : jS), k72  S = some z → jJ X (jMain D ad cy) 72 [] [] S) {k80 : jS → Option (Int32 × jS)} (hk80 : ∀  (S : jS), k80  S = some z → jJ X (jMain D ad cy) 80 [] [] S) (x1 : Int32) (x2 : Int32) (S : jS) (hE : f_X11_agreesWithNotes_2 g k72 k80 x1 x2 S = some z) : jJ X (jMain D ad cy) 2 [(0, .ref (ad 0)), (1, .int x1), (2, .int x2)] [] S := by
  unfold f_X11_agreesWithNotes_2 at hE
  refine j_iload_n C dX11_agreesWithNotes_2 2 rfl ?_
  refine j_aload_n C dX11_agreesWithNotes_3 0 rfl ?_
  refine g_X11_44_0 C dX11_agreesWithNotes_4 ?_
  refine g_X11_231_21 C dX11_agreesWithNotes_7 ?_
  refine j_icmp_ge (tgt := 80) C dX11_agreesWithNotes_10 rfl hE (fun hE => ?_) (fun hE => ?_)
  · refine j_sub [] rfl ?_
    exact hk80  S hE
  · refine j_iload_n C dX11_agreesWithNotes_13 2 rfl ?_
    refine j_bipush (v := 8) C dX11_agreesWithNotes_14 jc_bp_8 ?_
    refine j_icmp_ge (tgt := 80) C dX11_agreesWithNotes_16 rfl hE (fun hE => ?_) (fun hE => ?_)
    · refine j_sub [] rfl ?_
      exact hk80  S hE
    · refine j_aload_n C dX11_agreesWithNotes_19 0 rfl ?_
      refine g_X11_21_0 C dX11_agreesWithNotes_20 ?_
      refine j_iload_n C dX11_agreesWithNotes_23 1 rfl ?_
      refine j_aload_n C dX11_agreesWithNotes_24 0 rfl ?_
      refine g_X11_44_0 C dX11_agreesWithNotes_25 ?_
      refine g_X11_293_21 C dX11_agreesWithNotes_28 ?_
      refine j_iconst (v := 3) C dX11_agreesWithNotes_31 jc_ic_3 ?_
      refine j_iload_n C dX11_agreesWithNotes_32 2 rfl ?_
      refine j_imul C dX11_agreesWithNotes_33 ?_
      refine l_24 C dX11_agreesWithNotes_34 hE (fun v1 hE => ?_)
      refine j_aload_n C dX11_agreesWithNotes_35 0 rfl ?_
      refine g_X11_44_0 C dX11_agreesWithNotes_36 ?_
      refine g_X11_293_21 C dX11_agreesWithNotes_39 ?_
      refine j_iconst (v := 3) C dX11_agreesWithNotes_42 jc_ic_3 ?_
      refine j_iload_n C dX11_agreesWithNotes_43 2 rfl ?_
      refine j_imul C dX11_agreesWithNotes_44 ?_
      refine j_iconst (v := 1) C dX11_agreesWithNotes_45 jc_ic_1 ?_
      refine j_iadd C dX11_agreesWithNotes_46 ?_
      refine l_24 C dX11_agreesWithNotes_47 hE (fun v2 hE => ?_)
      refine k_X11_156_X2_allows C dX11_agreesWithNotes_48 hE (Nat.le_of_ble_eq_true rfl) (Nat.le_of_ble_eq_true rfl) (Nat.le_of_ble_eq_true rfl) (fun v4 S3 hE => ?_)
      refine j_istore_n (i := 3) (lv' := [(3, .int v4), (0, .ref (ad 0)), (1, .int x1), (2, .int x2)]) C dX11_agreesWithNotes_51 rfl (by decide) rfl ?_
      refine j_iload_n C dX11_agreesWithNotes_52 0 rfl ?_
      refine k_X11_139_X11_bit C dX11_agreesWithNotes_53 hE (Nat.le_of_ble_eq_true rfl) (Nat.le_of_ble_eq_true rfl) (Nat.le_of_ble_eq_true rfl) (fun v6 S5 hE => ?_)
      refine j_aload_n C dX11_agreesWithNotes_56 1 rfl ?_
      refine g_X11_44_0 C dX11_agreesWithNotes_57 ?_
      refine g_X11_293_21 C dX11_agreesWithNotes_60 ?_
      refine j_iconst (v := 3) C dX11_agreesWithNotes_63 jc_ic_3 ?_
      refine j_iload_n C dX11_agreesWithNotes_64 3 rfl ?_
      refine j_imul C dX11_agreesWithNotes_65 ?_
      refine j_iconst (v := 2) C dX11_agreesWithNotes_66 jc_ic_2 ?_
      refine j_iadd C dX11_agreesWithNotes_67 ?_
      refine l_24 C dX11_agreesWithNotes_68 hE (fun v7 hE => ?_)
      refine j_icmp_eq (tgt := 74) C dX11_agreesWithNotes_69 rfl hE (fun hE => ?_) (fun hE => ?_)
      · refine j_iinc (v := (x2 + 1)) (lv' := [(2, .int (x2 + 1)), (3, .int v4), (0, .ref (ad 0)), (1, .int x1)]) C dX11_agreesWithNotes_74 3 rfl (congrArg (fun w => x2 + w) jc_ic_1) (by decide) rfl ?_
        refine j_goto (tgt := 2) C dX11_agreesWithNotes_77 rfl ?_
        refine j_sub [2, 3, 0] rfl ?_
        exact hg x1 (x2 + 1) S5 hE
      · refine j_sub [] rfl ?_
        exact hk72  S5 hE
theorem q_X11_agreesWithNotes_2 {X : jX} {D : va_G} {ad : Nat → Nat} {cy : Nat → ClassId} (C : jC X (jMain D ad cy) RX11 cX11_agreesWithNotes (some .boolean) 4 5 113) {z : Int32 × jS} (Q : jRet X (jMain D ad cy) (some (.int z.1), z.2)) {k72 : jS → Option (Int32 × jS)} (hk72 : ∀  (S : jS), k72  S = some z → jJ X (jMain D ad cy) 72 [] [] S) {k80 : jS → Option (Int32 × jS)} (hk80 : ∀  (S : jS), k80  S = some z → jJ X (jMain D ad cy) 80 [] [] S) (x1 : Int32) (x2 : Int32) (S : jS) (hE : lp_X11_agreesWithNotes_2 k72 k80 x1 x2 S = some z) : jJ X (jMain D ad cy) 2 [(0, .ref (ad 0)), (1, .int x1), (2, .int x2)] [] S :=
  jloop_P (α := Int32 × Int32 × jS) (B := (fun g q => f_X11_agreesWithNotes_2 (fun x1 x2 S => g (x1, x2, S)) k72 k80 q.1 q.2.1 q.2.2)) (P := fun q => jJ X (jMain D ad cy) 2 [(0, .ref (ad 0)), (1, .int q.1), (2, .int q.2.1)] [] q.2.2) (fun g q hg h => p_X11_agreesWithNotes_2 C Q (g := fun x1 x2 S => g (x1, x2, S)) (fun x1 x2 S h => hg (x1, x2, S) h) hk72 hk80 q.1 q.2.1 q.2.2 h) jN (x1, x2, S) hE
set_option maxRecDepth 100000 in
theorem p_X11_agreesWithNotes_72 {X : jX} {D : va_G} {ad : Nat → Nat} {cy : Nat → ClassId} (C : jC X (jMain D ad cy) RX11 cX11_agreesWithNotes (some .boolean) 4 5 113) {z : Int32 × jS} (Q : jRet X (jMain D ad cy) (some (.int z.1), z.2))   (S : jS) (hE : f_X11_agreesWithNotes_72   S = some z) : jJ X (jMain D ad cy) 72 [] [] S := by
  unfold f_X11_agreesWithNotes_72 at hE
  refine j_iconst (v := 0) C dX11_agreesWithNotes_72 jc_ic_0 ?_
  exact j_zret C Q dX11_agreesWithNotes_73 hE
set_option maxRecDepth 100000 in
theorem p_X11_agreesWithNotes_80 {X : jX} {D : va_G} {ad : Nat → Nat} {cy : Nat → ClassId} (C : jC X (jMain D ad cy) RX11 cX11_agreesWithNotes (some .boolean) 4 5 113) {z : Int32 × jS} (Q : jRet X (jMain D ad cy) (some (.int z.1), z.2))   (S : jS) (hE : f_X11_agreesWithNotes_80   S = some z) : jJ X (jMain D ad cy) 80 [] [] S := by
  unfold f_X11_agreesWithNotes_80 at hE
  refine j_iconst (v := 1) C dX11_agreesWithNotes_80 jc_ic_1 ?_
  exact j_zret C Q dX11_agreesWithNotes_81 hE
set_option maxRecDepth 100000 in
theorem p_X11_agreesWithNotes_e {X : jX} {D : va_G} {ad : Nat → Nat} {cy : Nat → ClassId} (C : jC X (jMain D ad cy) RX11 cX11_agreesWithNotes (some .boolean) 4 5 113) {z : Int32 × jS} (Q : jRet X (jMain D ad cy) (some (.int z.1), z.2))  (x1 : Int32) (S : jS) (hE : f_X11_agreesWithNotes_e  x1 S = some z) : jJ X (jMain D ad cy) 0 [(0, .ref (ad 0)), (1, .int x1)] [] S := by
  unfold f_X11_agreesWithNotes_e at hE
  refine j_iconst (v := 0) C dX11_agreesWithNotes_0 jc_ic_0 ?_
  refine j_istore_n (i := 2) (lv' := [(2, .int 0), (0, .ref (ad 0)), (1, .int x1)]) C dX11_agreesWithNotes_1 rfl (by decide) rfl ?_
  refine j_sub [1, 2, 0] rfl ?_
  exact q_X11_agreesWithNotes_2 C Q (p_X11_agreesWithNotes_72 C Q ) (p_X11_agreesWithNotes_80 C Q ) x1 0 S hE
theorem c_X11_agreesWithNotes {l : Launch} {D : va_G} {ad : Nat → Nat} {cy : Nat → ClassId} (hO : jOk (jMain D ad cy)) (x1 : Int32) (S : jS) {z : Int32 × jS} (hz : f_X11_agreesWithNotes x1 S = some z) : Met l yX11_agreesWithNotes (.code yX11_agreesWithNotes cX11_agreesWithNotes 4 (some .boolean) :: jT) { frames := 5, cells := 0, slots := 0, locals := 113 } (va_Pc [.ref (ad 0), .int x1] (jInv (jMain D ad cy) S)) (jQ (jMain D ad cy) (some (.int z.1), z.2)) 0 0 (yA (jMain D ad cy)) :=
  jMet hO (by decide +kernel) rfl (Nat.le_of_ble_eq_true rfl) (fun X _ C Q => p_X11_agreesWithNotes_e C Q x1 S hz)
theorem k_X11_238_X11_agreesWithNotes {X : jX} {D : va_G} {ad : Nat → Nat} {cy : Nat → ClassId} {cc : ByteArray} {ret : Option FieldType} {nL fr lo pc : Nat} {lv : List (Nat × Value)} {st : List Value} {S : jS} {β : Type} {z : β} (C : jC X (jMain D ad cy) RX11 cc ret nL fr lo) {a0 : Int32} {E : Int32 → jS → Option β} (d : decode cc pc = .ok (.invokevirtual 238, 3)) (hE : jcl (f_X11_agreesWithNotes a0 S) E = some z) (hfr : 6 ≤ fr) (hlo : 136 ≤ lo) (hst : (st.map fun v => v.category).sum ≤ 8) (K : ∀ (v : Int32) (S1 : jS), E v S1 = some z → jJ X (jMain D ad cy) (pc + 3) lv (.int v :: st) S1) : jJ X (jMain D ad cy) pc lv (.int a0 :: .ref (ad 0) :: st) S := by
  obtain ⟨v, h1, h2⟩ := jcl_some hE
  exact j_callV (k := 0) (ci := 11) (T := TX11) (N := 16) (n := 1) (As := [.int a0]) C (c_X11_agreesWithNotes C.2.2.2.2.2.2.1 a0 S h1) tw_789 tw_791 tw_28 tw_70 tw_792 (by decide +kernel) rfl (by decide : 0 < 56) rfl rfl hfr hlo hst rfl d (K _ _ h2)
set_option maxRecDepth 100000 in
theorem p_X11_laws_49 {X : jX} {D : va_G} {ad : Nat → Nat} {cy : Nat → ClassId} (C : jC X (jMain D ad cy) RX11 cX11_laws (some .int) 5 6 136) {z : Int32 × jS} (Q : jRet X (jMain D ad cy) (some (.int z.1), z.2)) {g : Int32 → Int32 → Int32 → Int32 → jS → Option (Int32 × jS)} (hg : ∀ (x1 : Int32) (x2 : Int32) (x3 : Int32) (x4 : Int32) (S : jS), g x1 x2 x3 x4 S = some z → jJ X (jMain D ad cy) 19 [(0, .ref (ad 0)), (1, .int x1), (2, .int x2), (3, .int x3), (4, .int x4)] [] S) {k55 : Int32 → Int32 → Int32 → jS → Option (Int32 × jS)} (hk55 : ∀ (x1 : Int32) (x2 : Int32) (x3 : Int32) (S : jS), k55 x1 x2 x3 S = some z → jJ X (jMain D ad cy) 55 [(1, .int x1), (2, .int x2), (3, .int x3)] [] S) (x1 : Int32) (x2 : Int32) (x3 : Int32) (x4 : Int32) (S : jS) (hE : f_X11_laws_49 g k55 x1 x2 x3 x4 S = some z) : jJ X (jMain D ad cy) 49 [(0, .ref (ad 0)), (1, .int x1), (2, .int x2), (3, .int x3), (4, .int x4)] [] S := by
  unfold f_X11_laws_49 at hE
  refine j_iinc (v := (x4 + 1)) (lv' := [(4, .int (x4 + 1)), (0, .ref (ad 0)), (1, .int x1), (2, .int x2), (3, .int x3)]) C dX11_laws_49 4 rfl (congrArg (fun w => x4 + w) jc_ic_1) (by decide) rfl ?_
  refine j_goto (tgt := 19) C dX11_laws_52 rfl ?_
  refine j_sub [1, 2, 3, 4, 0] rfl ?_
  exact hg x1 x2 x3 (x4 + 1) S hE
set_option maxRecDepth 100000 in
theorem p_X11_laws_45 {X : jX} {D : va_G} {ad : Nat → Nat} {cy : Nat → ClassId} (C : jC X (jMain D ad cy) RX11 cX11_laws (some .int) 5 6 136) {z : Int32 × jS} (Q : jRet X (jMain D ad cy) (some (.int z.1), z.2)) {g : Int32 → Int32 → Int32 → Int32 → jS → Option (Int32 × jS)} (hg : ∀ (x1 : Int32) (x2 : Int32) (x3 : Int32) (x4 : Int32) (S : jS), g x1 x2 x3 x4 S = some z → jJ X (jMain D ad cy) 19 [(0, .ref (ad 0)), (1, .int x1), (2, .int x2), (3, .int x3), (4, .int x4)] [] S) {k55 : Int32 → Int32 → Int32 → jS → Option (Int32 × jS)} (hk55 : ∀ (x1 : Int32) (x2 : Int32) (x3 : Int32) (S : jS), k55 x1 x2 x3 S = some z → jJ X (jMain D ad cy) 55 [(1, .int x1), (2, .int x2), (3, .int x3)] [] S) (a0 : Int32) (x1 : Int32) (x2 : Int32) (x4 : Int32) (S : jS) (hE : f_X11_laws_45 g k55 a0 x1 x2 x4 S = some z) : jJ X (jMain D ad cy) 45 [(0, .ref (ad 0)), (1, .int x1), (2, .int x2), (4, .int x4)] [.int a0] S := by
  unfold f_X11_laws_45 at hE
  refine j_istore_n (i := 3) (lv' := [(3, .int a0), (0, .ref (ad 0)), (1, .int x1), (2, .int x2), (4, .int x4)]) C dX11_laws_45 rfl (by decide) rfl ?_
  refine j_iinc (v := (x2 + 1)) (lv' := [(2, .int (x2 + 1)), (3, .int a0), (0, .ref (ad 0)), (1, .int x1), (4, .int x4)]) C dX11_laws_46 3 rfl (congrArg (fun w => x2 + w) jc_ic_1) (by decide) rfl ?_
  refine j_sub [2, 3, 0, 1, 4] rfl ?_
  exact p_X11_laws_49 C Q hg hk55 x1 (x2 + 1) a0 x4 S hE
set_option maxRecDepth 100000 in
theorem p_X11_laws_19 {X : jX} {D : va_G} {ad : Nat → Nat} {cy : Nat → ClassId} (C : jC X (jMain D ad cy) RX11 cX11_laws (some .int) 5 6 136) {z : Int32 × jS} (Q : jRet X (jMain D ad cy) (some (.int z.1), z.2)) {g : Int32 → Int32 → Int32 → Int32 → jS → Option (Int32 × jS)} (hg : ∀ (x1 : Int32) (x2 : Int32) (x3 : Int32) (x4 : Int32) (S : jS), g x1 x2 x3 x4 S = some z → jJ X (jMain D ad cy) 19 [(0, .ref (ad 0)), (1, .int x1), (2, .int x2), (3, .int x3), (4, .int x4)] [] S) {k55 : Int32 → Int32 → Int32 → jS → Option (Int32 × jS)} (hk55 : ∀ (x1 : Int32) (x2 : Int32) (x3 : Int32) (S : jS), k55 x1 x2 x3 S = some z → jJ X (jMain D ad cy) 55 [(1, .int x1), (2, .int x2), (3, .int x3)] [] S) (x1 : Int32) (x2 : Int32) (x3 : Int32) (x4 : Int32) (S : jS) (hE : f_X11_laws_19 g k55 x1 x2 x3 x4 S = some z) : jJ X (jMain D ad cy) 19 [(0, .ref (ad 0)), (1, .int x1), (2, .int x2), (3, .int x3), (4, .int x4)] [] S := by
  unfold f_X11_laws_19 at hE
  refine j_iload C dX11_laws_19 4 rfl ?_
  refine j_bipush (v := 60) C dX11_laws_21 jc_bp_60 ?_
  refine j_icmp_ge (tgt := 55) C dX11_laws_23 rfl hE (fun hE => ?_) (fun hE => ?_)
  · refine j_sub [1, 2, 3] rfl ?_
    exact hk55 x1 x2 x3 S hE
  · refine j_aload_n C dX11_laws_26 0 rfl ?_
    refine j_iload C dX11_laws_27 4 rfl ?_
    refine k_X11_238_X11_agreesWithNotes C dX11_laws_29 hE (Nat.le_of_ble_eq_true rfl) (Nat.le_of_ble_eq_true rfl) (Nat.le_of_ble_eq_true rfl) (fun v2 S1 hE => ?_)
    refine j_if_eq (tgt := 49) C dX11_laws_32 rfl hE (fun hE => ?_) (fun hE => ?_)
    · exact p_X11_laws_49 C Q hg hk55 x1 x2 x3 x4 S1 hE
    · refine j_iload_n C dX11_laws_35 2 rfl ?_
      refine j_if_ne (tgt := 44) C dX11_laws_36 rfl hE (fun hE => ?_) (fun hE => ?_)
      · refine j_iload_n C dX11_laws_44 3 rfl ?_
        refine j_sub [0, 1, 2, 4] rfl ?_
        exact p_X11_laws_45 C Q hg hk55 x3 x1 x2 x4 S1 hE
      · refine j_iload C dX11_laws_39 4 rfl ?_
        refine j_goto (tgt := 45) C dX11_laws_41 rfl ?_
        refine j_sub [0, 1, 2, 4] rfl ?_
        exact p_X11_laws_45 C Q hg hk55 x4 x1 x2 x4 S1 hE
theorem q_X11_laws_19 {X : jX} {D : va_G} {ad : Nat → Nat} {cy : Nat → ClassId} (C : jC X (jMain D ad cy) RX11 cX11_laws (some .int) 5 6 136) {z : Int32 × jS} (Q : jRet X (jMain D ad cy) (some (.int z.1), z.2)) {k55 : Int32 → Int32 → Int32 → jS → Option (Int32 × jS)} (hk55 : ∀ (x1 : Int32) (x2 : Int32) (x3 : Int32) (S : jS), k55 x1 x2 x3 S = some z → jJ X (jMain D ad cy) 55 [(1, .int x1), (2, .int x2), (3, .int x3)] [] S) (x1 : Int32) (x2 : Int32) (x3 : Int32) (x4 : Int32) (S : jS) (hE : lp_X11_laws_19 k55 x1 x2 x3 x4 S = some z) : jJ X (jMain D ad cy) 19 [(0, .ref (ad 0)), (1, .int x1), (2, .int x2), (3, .int x3), (4, .int x4)] [] S :=
  jloop_P (α := Int32 × Int32 × Int32 × Int32 × jS) (B := (fun g q => f_X11_laws_19 (fun x1 x2 x3 x4 S => g (x1, x2, x3, x4, S)) k55 q.1 q.2.1 q.2.2.1 q.2.2.2.1 q.2.2.2.2)) (P := fun q => jJ X (jMain D ad cy) 19 [(0, .ref (ad 0)), (1, .int q.1), (2, .int q.2.1), (3, .int q.2.2.1), (4, .int q.2.2.2.1)] [] q.2.2.2.2) (fun g q hg h => p_X11_laws_19 C Q (g := fun x1 x2 x3 x4 S => g (x1, x2, x3, x4, S)) (fun x1 x2 x3 x4 S h => hg (x1, x2, x3, x4, S) h) hk55 q.1 q.2.1 q.2.2.1 q.2.2.2.1 q.2.2.2.2 h) jN (x1, x2, x3, x4, S) hE
set_option maxRecDepth 100000 in
theorem p_X11_laws_64 {X : jX} {D : va_G} {ad : Nat → Nat} {cy : Nat → ClassId} (C : jC X (jMain D ad cy) RX11 cX11_laws (some .int) 5 6 136) {z : Int32 × jS} (Q : jRet X (jMain D ad cy) (some (.int z.1), z.2))  (a0 : Int32) (S : jS) (hE : f_X11_laws_64  a0 S = some z) : jJ X (jMain D ad cy) 64 [] [.int a0] S := by
  unfold f_X11_laws_64 at hE
  exact j_iret C Q dX11_laws_64 hE
set_option maxRecDepth 100000 in
theorem p_X11_laws_55 {X : jX} {D : va_G} {ad : Nat → Nat} {cy : Nat → ClassId} (C : jC X (jMain D ad cy) RX11 cX11_laws (some .int) 5 6 136) {z : Int32 × jS} (Q : jRet X (jMain D ad cy) (some (.int z.1), z.2))  (x1 : Int32) (x2 : Int32) (x3 : Int32) (S : jS) (hE : f_X11_laws_55  x1 x2 x3 S = some z) : jJ X (jMain D ad cy) 55 [(1, .int x1), (2, .int x2), (3, .int x3)] [] S := by
  unfold f_X11_laws_55 at hE
  refine j_iload_n C dX11_laws_55 0 rfl ?_
  refine j_if_ne (tgt := 63) C dX11_laws_56 rfl hE (fun hE => ?_) (fun hE => ?_)
  · refine j_iload_n C dX11_laws_63 2 rfl ?_
    refine j_sub [] rfl ?_
    exact p_X11_laws_64 C Q  x3 S hE
  · refine j_iload_n C dX11_laws_59 1 rfl ?_
    refine j_goto (tgt := 64) C dX11_laws_60 rfl ?_
    refine j_sub [] rfl ?_
    exact p_X11_laws_64 C Q  x2 S hE
set_option maxRecDepth 100000 in
theorem p_X11_laws_e {X : jX} {D : va_G} {ad : Nat → Nat} {cy : Nat → ClassId} (C : jC X (jMain D ad cy) RX11 cX11_laws (some .int) 5 6 136) {z : Int32 × jS} (Q : jRet X (jMain D ad cy) (some (.int z.1), z.2))  (x1 : Int32) (S : jS) (hE : f_X11_laws_e  x1 S = some z) : jJ X (jMain D ad cy) 0 [(0, .ref (ad 0)), (1, .int x1)] [] S := by
  unfold f_X11_laws_e at hE
  refine j_iload_n C dX11_laws_0 1 rfl ?_
  refine k_X11_160_X11_isBit C dX11_laws_1 hE (Nat.le_of_ble_eq_true rfl) (Nat.le_of_ble_eq_true rfl) (Nat.le_of_ble_eq_true rfl) (fun v2 S1 hE => ?_)
  refine j_if_ne (tgt := 12) C dX11_laws_4 rfl hE (fun hE => ?_) (fun hE => ?_)
  · refine j_iconst (v := 0) C dX11_laws_12 jc_ic_0 ?_
    refine j_istore_n (i := 2) (lv' := [(2, .int 0), (0, .ref (ad 0)), (1, .int x1)]) C dX11_laws_13 rfl (by decide) rfl ?_
    refine j_iconst (v := (-1)) C dX11_laws_14 jc_ic_m1 ?_
    refine j_istore_n (i := 3) (lv' := [(3, .int (-1)), (2, .int 0), (0, .ref (ad 0)), (1, .int x1)]) C dX11_laws_15 rfl (by decide) rfl ?_
    refine j_iconst (v := 0) C dX11_laws_16 jc_ic_0 ?_
    refine j_istore (lv' := [(4, .int 0), (3, .int (-1)), (2, .int 0), (0, .ref (ad 0)), (1, .int x1)]) C dX11_laws_17 (by decide) rfl ?_
    refine j_sub [3, 4, 2, 1, 0] rfl ?_
    exact q_X11_laws_19 C Q (p_X11_laws_55 C Q ) x1 0 (-1) 0 S1 hE
  · refine j_aload_n C dX11_laws_7 0 rfl ?_
    refine k_X11_171_X11_refuseBadApart C dX11_laws_8 hE (Nat.le_of_ble_eq_true rfl) (Nat.le_of_ble_eq_true rfl) (Nat.le_of_ble_eq_true rfl) (fun v4 S3 hE => ?_)
    exact j_iret C Q dX11_laws_11 hE
theorem c_X11_laws {l : Launch} {D : va_G} {ad : Nat → Nat} {cy : Nat → ClassId} (hO : jOk (jMain D ad cy)) (x1 : Int32) (S : jS) {z : Int32 × jS} (hz : f_X11_laws x1 S = some z) : Met l yX11_laws (.code yX11_laws cX11_laws 5 (some .int) :: jT) { frames := 6, cells := 0, slots := 0, locals := 136 } (va_Pc [.ref (ad 0), .int x1] (jInv (jMain D ad cy) S)) (jQ (jMain D ad cy) (some (.int z.1), z.2)) 0 0 (yA (jMain D ad cy)) :=
  jMet hO (by decide +kernel) rfl (Nat.le_of_ble_eq_true rfl) (fun X _ C Q => p_X11_laws_e C Q x1 S hz)
set_option maxRecDepth 100000 in
theorem p_X12_forget_28 {X : jX} {D : va_G} {ad : Nat → Nat} {cy : Nat → ClassId} (C : jC X (jMain D ad cy) RX12 cX12_forget (some .int) 4 1 25) {z : Int32 × jS} (Q : jRet X (jMain D ad cy) (some (.int z.1), z.2))  (a0 : Int32) (S : jS) (hE : f_X12_forget_28  a0 S = some z) : jJ X (jMain D ad cy) 28 [(0, .ref (ad 41))] [.int a0] S := by
  unfold f_X12_forget_28 at hE
  refine j_istore_n (i := 2) (lv' := [(2, .int a0), (0, .ref (ad 41))]) C dX12_forget_28 rfl (by decide) rfl ?_
  refine j_aload_n C dX12_forget_29 1 rfl ?_
  refine g_X12_7_41 C dX12_forget_30 ?_
  refine j_iload_n C dX12_forget_33 0 rfl ?_
  refine l_42 C dX12_forget_34 hE (fun v1 hE => ?_)
  refine j_istore_n (i := 3) (lv' := [(3, .int v1), (2, .int a0), (0, .ref (ad 41))]) C dX12_forget_35 rfl (by decide) rfl ?_
  refine j_aload_n C dX12_forget_36 2 rfl ?_
  refine g_X12_7_41 C dX12_forget_37 ?_
  refine j_iload_n C dX12_forget_40 1 rfl ?_
  refine j_iconst (v := 0) C dX12_forget_41 jc_ic_0 ?_
  refine s_42 C dX12_forget_42 hE (fun S2 hE => ?_)
  refine j_iload_n C dX12_forget_43 0 rfl ?_
  exact j_iret C Q dX12_forget_44 hE
set_option maxRecDepth 100000 in
theorem p_X12_forget_e {X : jX} {D : va_G} {ad : Nat → Nat} {cy : Nat → ClassId} (C : jC X (jMain D ad cy) RX12 cX12_forget (some .int) 4 1 25) {z : Int32 × jS} (Q : jRet X (jMain D ad cy) (some (.int z.1), z.2))  (x1 : Int32) (S : jS) (hE : f_X12_forget_e  x1 S = some z) : jJ X (jMain D ad cy) 0 [(0, .ref (ad 41)), (1, .int x1)] [] S := by
  unfold f_X12_forget_e at hE
  refine j_iload_n C dX12_forget_0 1 rfl ?_
  refine j_i2l C dX12_forget_1 ?_
  refine j_lconst (v := 0) C dX12_forget_2 jc_lc_0 ?_
  refine j_lconst (v := 1) C dX12_forget_3 jc_lc_1 ?_
  refine k_X12_59_X12_in C dX12_forget_4 hE (Nat.le_of_ble_eq_true rfl) (Nat.le_of_ble_eq_true rfl) (Nat.le_of_ble_eq_true rfl) (fun v2 S1 hE => ?_)
  refine j_if_ne (tgt := 17) C dX12_forget_7 rfl hE (fun hE => ?_) (fun hE => ?_)
  · refine j_iload_n C dX12_forget_17 1 rfl ?_
    refine j_if_ne (tgt := 26) C dX12_forget_18 rfl hE (fun hE => ?_) (fun hE => ?_)
    · refine j_bipush (v := 11) C dX12_forget_26 jc_bp_11 ?_
      refine j_sub [0] rfl ?_
      exact p_X12_forget_28 C Q  11 S1 hE
    · refine j_bipush (v := 10) C dX12_forget_21 jc_bp_10 ?_
      refine j_goto (tgt := 28) C dX12_forget_23 rfl ?_
      refine j_sub [0] rfl ?_
      exact p_X12_forget_28 C Q  10 S1 hE
  · refine j_aload_n C dX12_forget_10 0 rfl ?_
    refine j_bipush (v := (-2)) C dX12_forget_11 jc_bp_m2 ?_
    refine k_X12_87_X12_bad C dX12_forget_13 hE (Nat.le_of_ble_eq_true rfl) (Nat.le_of_ble_eq_true rfl) (Nat.le_of_ble_eq_true rfl) (fun v4 S3 hE => ?_)
    exact j_iret C Q dX12_forget_16 hE
theorem c_X12_forget {l : Launch} {D : va_G} {ad : Nat → Nat} {cy : Nat → ClassId} (hO : jOk (jMain D ad cy)) (x1 : Int32) (S : jS) {z : Int32 × jS} (hz : f_X12_forget x1 S = some z) : Met l yX12_forget (.code yX12_forget cX12_forget 4 (some .int) :: jT) { frames := 1, cells := 0, slots := 0, locals := 25 } (va_Pc [.ref (ad 41), .int x1] (jInv (jMain D ad cy) S)) (jQ (jMain D ad cy) (some (.int z.1), z.2)) 0 0 (yA (jMain D ad cy)) :=
  jMet hO (by decide +kernel) rfl (Nat.le_of_ble_eq_true rfl) (fun X _ C Q => p_X12_forget_e C Q x1 S hz)
set_option maxRecDepth 100000 in
theorem p_X11_forget_57 {X : jX} {D : va_G} {ad : Nat → Nat} {cy : Nat → ClassId} (C : jC X (jMain D ad cy) RX11 cX11_forget (some .int) 3 1 20) {z : Int32 × jS} (Q : jRet X (jMain D ad cy) (some (.int z.1), z.2))  (x2 : Int32) (S : jS) (hE : f_X11_forget_57  x2 S = some z) : jJ X (jMain D ad cy) 57 [(2, .int x2)] [] S := by
  unfold f_X11_forget_57 at hE
  refine j_iload_n C dX11_forget_57 0 rfl ?_
  exact j_iret C Q dX11_forget_58 hE
set_option maxRecDepth 100000 in
theorem p_X11_forget_33 {X : jX} {D : va_G} {ad : Nat → Nat} {cy : Nat → ClassId} (C : jC X (jMain D ad cy) RX11 cX11_forget (some .int) 3 1 20) {z : Int32 × jS} (Q : jRet X (jMain D ad cy) (some (.int z.1), z.2))  (a0 : Int32) (x1 : Int32) (S : jS) (hE : f_X11_forget_33  a0 x1 S = some z) : jJ X (jMain D ad cy) 33 [(0, .ref (ad 0)), (1, .int x1)] [.int a0] S := by
  unfold f_X11_forget_33 at hE
  refine j_istore_n (i := 2) (lv' := [(2, .int a0), (0, .ref (ad 0)), (1, .int x1)]) C dX11_forget_33 rfl (by decide) rfl ?_
  refine j_iload_n C dX11_forget_34 2 rfl ?_
  refine j_if_ne (tgt := 49) C dX11_forget_35 rfl hE (fun hE => ?_) (fun hE => ?_)
  · refine j_aload_n C dX11_forget_49 1 rfl ?_
    refine g_X11_44_0 C dX11_forget_50 ?_
    refine j_iconst (v := 0) C dX11_forget_53 jc_ic_0 ?_
    refine p_X11_231_21 C dX11_forget_54 hE (fun S1 hE => ?_)
    refine j_sub [0] rfl ?_
    exact p_X11_forget_57 C Q  a0 S1 hE
  · refine j_aload_n C dX11_forget_38 1 rfl ?_
    refine g_X11_44_0 C dX11_forget_39 ?_
    refine j_iconst (v := 0) C dX11_forget_42 jc_ic_0 ?_
    refine p_X11_218_21 C dX11_forget_43 hE (fun S2 hE => ?_)
    refine j_goto (tgt := 57) C dX11_forget_46 rfl ?_
    refine j_sub [0] rfl ?_
    exact p_X11_forget_57 C Q  a0 S2 hE
set_option maxRecDepth 100000 in
theorem p_X11_forget_e {X : jX} {D : va_G} {ad : Nat → Nat} {cy : Nat → ClassId} (C : jC X (jMain D ad cy) RX11 cX11_forget (some .int) 3 1 20) {z : Int32 × jS} (Q : jRet X (jMain D ad cy) (some (.int z.1), z.2))  (x1 : Int32) (S : jS) (hE : f_X11_forget_e  x1 S = some z) : jJ X (jMain D ad cy) 0 [(0, .ref (ad 0)), (1, .int x1)] [] S := by
  unfold f_X11_forget_e at hE
  refine j_iload_n C dX11_forget_0 1 rfl ?_
  refine k_X11_160_X11_isBit C dX11_forget_1 hE (Nat.le_of_ble_eq_true rfl) (Nat.le_of_ble_eq_true rfl) (Nat.le_of_ble_eq_true rfl) (fun v2 S1 hE => ?_)
  refine j_if_ne (tgt := 12) C dX11_forget_4 rfl hE (fun hE => ?_) (fun hE => ?_)
  · refine j_iload_n C dX11_forget_12 1 rfl ?_
    refine j_if_ne (tgt := 26) C dX11_forget_13 rfl hE (fun hE => ?_) (fun hE => ?_)
    · refine j_aload_n C dX11_forget_26 0 rfl ?_
      refine g_X11_44_0 C dX11_forget_27 ?_
      refine g_X11_231_21 C dX11_forget_30 ?_
      exact p_X11_forget_33 C Q  (S1.1 21 5) x1 S1 hE
    · refine j_aload_n C dX11_forget_16 0 rfl ?_
      refine g_X11_44_0 C dX11_forget_17 ?_
      refine g_X11_218_21 C dX11_forget_20 ?_
      refine j_goto (tgt := 33) C dX11_forget_23 rfl ?_
      exact p_X11_forget_33 C Q  (S1.1 21 3) x1 S1 hE
  · refine j_aload_n C dX11_forget_7 0 rfl ?_
    refine k_X11_74_X11_refuseBad C dX11_forget_8 hE (Nat.le_of_ble_eq_true rfl) (Nat.le_of_ble_eq_true rfl) (Nat.le_of_ble_eq_true rfl) (fun v4 S3 hE => ?_)
    exact j_iret C Q dX11_forget_11 hE
theorem c_X11_forget {l : Launch} {D : va_G} {ad : Nat → Nat} {cy : Nat → ClassId} (hO : jOk (jMain D ad cy)) (x1 : Int32) (S : jS) {z : Int32 × jS} (hz : f_X11_forget x1 S = some z) : Met l yX11_forget (.code yX11_forget cX11_forget 3 (some .int) :: jT) { frames := 1, cells := 0, slots := 0, locals := 20 } (va_Pc [.ref (ad 0), .int x1] (jInv (jMain D ad cy) S)) (jQ (jMain D ad cy) (some (.int z.1), z.2)) 0 0 (yA (jMain D ad cy)) :=
  jMet hO (by decide +kernel) rfl (Nat.le_of_ble_eq_true rfl) (fun X _ C Q => p_X11_forget_e C Q x1 S hz)
set_option maxRecDepth 100000 in
theorem p_X12_split_47 {X : jX} {D : va_G} {ad : Nat → Nat} {cy : Nat → ClassId} (C : jC X (jMain D ad cy) RX12 cX12_split (some .int) 5 5 113) {z : Int32 × jS} (Q : jRet X (jMain D ad cy) (some (.int z.1), z.2)) {g : Int32 → Int32 → Int32 → jS → Option (Int32 × jS)} (hg : ∀ (x1 : Int32) (x2 : Int32) (x3 : Int32) (S : jS), g x1 x2 x3 S = some z → jJ X (jMain D ad cy) 19 [(0, .ref (ad 41)), (1, .int x1), (2, .int x2), (3, .int x3)] [] S) {k54 : Int32 → Int32 → jS → Option (Int32 × jS)} (hk54 : ∀ (x1 : Int32) (x2 : Int32) (S : jS), k54 x1 x2 S = some z → jJ X (jMain D ad cy) 54 [(0, .ref (ad 41)), (1, .int x1), (2, .int x2)] [] S) (a0 : Int32) (x1 : Int32) (x3 : Int32) (S : jS) (hE : f_X12_split_47 g k54 a0 x1 x3 S = some z) : jJ X (jMain D ad cy) 47 [(0, .ref (ad 41)), (1, .int x1), (3, .int x3)] [.int a0] S := by
  unfold f_X12_split_47 at hE
  refine j_istore_n (i := 2) (lv' := [(2, .int a0), (0, .ref (ad 41)), (1, .int x1), (3, .int x3)]) C dX12_split_47 rfl (by decide) rfl ?_
  refine j_iinc (v := (x3 + (-1))) (lv' := [(3, .int (x3 + (-1))), (2, .int a0), (0, .ref (ad 41)), (1, .int x1)]) C dX12_split_48 3 rfl (congrArg (fun w => x3 + w) jc_ic_m1) (by decide) rfl ?_
  refine j_goto (tgt := 19) C dX12_split_51 rfl ?_
  refine j_sub [2, 3, 1, 0] rfl ?_
  exact hg x1 a0 (x3 + (-1)) S hE
set_option maxRecDepth 100000 in
theorem p_X12_split_19 {X : jX} {D : va_G} {ad : Nat → Nat} {cy : Nat → ClassId} (C : jC X (jMain D ad cy) RX12 cX12_split (some .int) 5 5 113) {z : Int32 × jS} (Q : jRet X (jMain D ad cy) (some (.int z.1), z.2)) {g : Int32 → Int32 → Int32 → jS → Option (Int32 × jS)} (hg : ∀ (x1 : Int32) (x2 : Int32) (x3 : Int32) (S : jS), g x1 x2 x3 S = some z → jJ X (jMain D ad cy) 19 [(0, .ref (ad 41)), (1, .int x1), (2, .int x2), (3, .int x3)] [] S) {k54 : Int32 → Int32 → jS → Option (Int32 × jS)} (hk54 : ∀ (x1 : Int32) (x2 : Int32) (S : jS), k54 x1 x2 S = some z → jJ X (jMain D ad cy) 54 [(0, .ref (ad 41)), (1, .int x1), (2, .int x2)] [] S) (x1 : Int32) (x2 : Int32) (x3 : Int32) (S : jS) (hE : f_X12_split_19 g k54 x1 x2 x3 S = some z) : jJ X (jMain D ad cy) 19 [(0, .ref (ad 41)), (1, .int x1), (2, .int x2), (3, .int x3)] [] S := by
  unfold f_X12_split_19 at hE
  refine j_iload_n C dX12_split_19 3 rfl ?_
  refine j_if_le (tgt := 54) C dX12_split_20 rfl hE (fun hE => ?_) (fun hE => ?_)
  · refine j_sub [0, 1, 2] rfl ?_
    exact hk54 x1 x2 S hE
  · refine j_iload_n C dX12_split_23 1 rfl ?_
    refine j_iload_n C dX12_split_24 3 rfl ?_
    refine j_iadd C dX12_split_25 ?_
    refine j_bipush (v := 8) C dX12_split_26 jc_bp_8 ?_
    refine j_irem C dX12_split_28 hE (fun v1 hE => ?_)
    refine j_istore (lv' := [(4, .int v1), (0, .ref (ad 41)), (1, .int x1), (2, .int x2), (3, .int x3)]) C dX12_split_29 (by decide) rfl ?_
    refine j_aload_n C dX12_split_31 1 rfl ?_
    refine g_X12_7_41 C dX12_split_32 ?_
    refine j_iload C dX12_split_35 0 rfl ?_
    refine l_42 C dX12_split_37 hE (fun v2 hE => ?_)
    refine j_if_ne (tgt := 46) C dX12_split_38 rfl hE (fun hE => ?_) (fun hE => ?_)
    · refine j_iload_n C dX12_split_46 3 rfl ?_
      refine j_sub [1, 2, 4] rfl ?_
      exact p_X12_split_47 C Q hg hk54 x2 x1 x3 S hE
    · refine j_iload C dX12_split_41 0 rfl ?_
      refine j_goto (tgt := 47) C dX12_split_43 rfl ?_
      refine j_sub [1, 2, 4] rfl ?_
      exact p_X12_split_47 C Q hg hk54 v1 x1 x3 S hE
theorem q_X12_split_19 {X : jX} {D : va_G} {ad : Nat → Nat} {cy : Nat → ClassId} (C : jC X (jMain D ad cy) RX12 cX12_split (some .int) 5 5 113) {z : Int32 × jS} (Q : jRet X (jMain D ad cy) (some (.int z.1), z.2)) {k54 : Int32 → Int32 → jS → Option (Int32 × jS)} (hk54 : ∀ (x1 : Int32) (x2 : Int32) (S : jS), k54 x1 x2 S = some z → jJ X (jMain D ad cy) 54 [(0, .ref (ad 41)), (1, .int x1), (2, .int x2)] [] S) (x1 : Int32) (x2 : Int32) (x3 : Int32) (S : jS) (hE : lp_X12_split_19 k54 x1 x2 x3 S = some z) : jJ X (jMain D ad cy) 19 [(0, .ref (ad 41)), (1, .int x1), (2, .int x2), (3, .int x3)] [] S :=
  jloop_P (α := Int32 × Int32 × Int32 × jS) (B := (fun g q => f_X12_split_19 (fun x1 x2 x3 S => g (x1, x2, x3, S)) k54 q.1 q.2.1 q.2.2.1 q.2.2.2)) (P := fun q => jJ X (jMain D ad cy) 19 [(0, .ref (ad 41)), (1, .int q.1), (2, .int q.2.1), (3, .int q.2.2.1)] [] q.2.2.2) (fun g q hg h => p_X12_split_19 C Q (g := fun x1 x2 x3 S => g (x1, x2, x3, S)) (fun x1 x2 x3 S h => hg (x1, x2, x3, S) h) hk54 q.1 q.2.1 q.2.2.1 q.2.2.2 h) jN (x1, x2, x3, S) hE
set_option maxRecDepth 100000 in
theorem p_X12_split_69 {X : jX} {D : va_G} {ad : Nat → Nat} {cy : Nat → ClassId} (C : jC X (jMain D ad cy) RX12 cX12_split (some .int) 5 5 113) {z : Int32 × jS} (Q : jRet X (jMain D ad cy) (some (.int z.1), z.2))   (S : jS) (hE : f_X12_split_69   S = some z) : jJ X (jMain D ad cy) 69 [] [] S := by
  unfold f_X12_split_69 at hE
  refine j_iconst (v := (-1)) C dX12_split_69 jc_ic_m1 ?_
  exact j_iret C Q dX12_split_70 hE
set_option maxRecDepth 100000 in
theorem p_X12_split_54 {X : jX} {D : va_G} {ad : Nat → Nat} {cy : Nat → ClassId} (C : jC X (jMain D ad cy) RX12 cX12_split (some .int) 5 5 113) {z : Int32 × jS} (Q : jRet X (jMain D ad cy) (some (.int z.1), z.2))  (x1 : Int32) (x2 : Int32) (S : jS) (hE : f_X12_split_54  x1 x2 S = some z) : jJ X (jMain D ad cy) 54 [(0, .ref (ad 41)), (1, .int x1), (2, .int x2)] [] S := by
  unfold f_X12_split_54 at hE
  refine j_iload_n C dX12_split_54 2 rfl ?_
  refine j_iconst (v := (-1)) C dX12_split_55 jc_ic_m1 ?_
  refine j_icmp_eq (tgt := 69) C dX12_split_56 rfl hE (fun hE => ?_) (fun hE => ?_)
  · refine j_sub [] rfl ?_
    exact p_X12_split_69 C Q   S hE
  · refine j_aload_n C dX12_split_59 0 rfl ?_
    refine g_X12_7_41 C dX12_split_60 ?_
    refine j_iload_n C dX12_split_63 1 rfl ?_
    refine l_42 C dX12_split_64 hE (fun v1 hE => ?_)
    refine j_iconst (v := 2) C dX12_split_65 jc_ic_2 ?_
    refine j_icmp_ge (tgt := 71) C dX12_split_66 rfl hE (fun hE => ?_) (fun hE => ?_)
    · refine j_aload_n C dX12_split_71 0 rfl ?_
      refine k_X12_125_X12_layHand C dX12_split_72 hE (Nat.le_of_ble_eq_true rfl) (Nat.le_of_ble_eq_true rfl) (Nat.le_of_ble_eq_true rfl) (fun S2 hE => ?_)
      refine j_aload_n C dX12_split_75 0 rfl ?_
      refine g_X12_30_41 C dX12_split_76 ?_
      refine j_iload_n C dX12_split_79 1 rfl ?_
      refine j_aload_n C dX12_split_80 0 rfl ?_
      refine g_X12_7_41 C dX12_split_81 ?_
      refine j_iload_n C dX12_split_84 1 rfl ?_
      refine l_42 C dX12_split_85 hE (fun v3 hE => ?_)
      refine j_iconst (v := 2) C dX12_split_86 jc_ic_2 ?_
      refine j_idiv C dX12_split_87 hE (fun v4 hE => ?_)
      refine s_47 C dX12_split_88 hE (fun S5 hE => ?_)
      refine j_aload_n C dX12_split_89 0 rfl ?_
      refine g_X12_30_41 C dX12_split_90 ?_
      refine j_iload_n C dX12_split_93 2 rfl ?_
      refine j_aload_n C dX12_split_94 0 rfl ?_
      refine g_X12_7_41 C dX12_split_95 ?_
      refine j_iload_n C dX12_split_98 1 rfl ?_
      refine l_42 C dX12_split_99 hE (fun v6 hE => ?_)
      refine j_aload_n C dX12_split_100 0 rfl ?_
      refine g_X12_7_41 C dX12_split_101 ?_
      refine j_iload_n C dX12_split_104 1 rfl ?_
      refine l_42 C dX12_split_105 hE (fun v7 hE => ?_)
      refine j_iconst (v := 2) C dX12_split_106 jc_ic_2 ?_
      refine j_idiv C dX12_split_107 hE (fun v8 hE => ?_)
      refine j_isub C dX12_split_108 ?_
      refine s_47 C dX12_split_109 hE (fun S9 hE => ?_)
      refine j_aload_n C dX12_split_110 0 rfl ?_
      refine k_X12_134_X12_manyQuarrels C dX12_split_111 hE (Nat.le_of_ble_eq_true rfl) (Nat.le_of_ble_eq_true rfl) (Nat.le_of_ble_eq_true rfl) (fun v11 S10 hE => ?_)
      exact j_iret C Q dX12_split_114 hE
    · refine j_sub [] rfl ?_
      exact p_X12_split_69 C Q   S hE
set_option maxRecDepth 100000 in
theorem p_X12_split_e {X : jX} {D : va_G} {ad : Nat → Nat} {cy : Nat → ClassId} (C : jC X (jMain D ad cy) RX12 cX12_split (some .int) 5 5 113) {z : Int32 × jS} (Q : jRet X (jMain D ad cy) (some (.int z.1), z.2))  (x1 : Int32) (S : jS) (hE : f_X12_split_e  x1 S = some z) : jJ X (jMain D ad cy) 0 [(0, .ref (ad 41)), (1, .int x1)] [] S := by
  unfold f_X12_split_e at hE
  refine j_iload_n C dX12_split_0 1 rfl ?_
  refine k_X12_108_X12_isHouse C dX12_split_1 hE (Nat.le_of_ble_eq_true rfl) (Nat.le_of_ble_eq_true rfl) (Nat.le_of_ble_eq_true rfl) (fun v2 S1 hE => ?_)
  refine j_if_ne (tgt := 14) C dX12_split_4 rfl hE (fun hE => ?_) (fun hE => ?_)
  · refine j_iconst (v := (-1)) C dX12_split_14 jc_ic_m1 ?_
    refine j_istore_n (i := 2) (lv' := [(2, .int (-1)), (0, .ref (ad 41)), (1, .int x1)]) C dX12_split_15 rfl (by decide) rfl ?_
    refine j_bipush (v := 8) C dX12_split_16 jc_bp_8 ?_
    refine j_istore_n (i := 3) (lv' := [(3, .int 8), (2, .int (-1)), (0, .ref (ad 41)), (1, .int x1)]) C dX12_split_18 rfl (by decide) rfl ?_
    refine j_sub [2, 3, 1, 0] rfl ?_
    exact q_X12_split_19 C Q (p_X12_split_54 C Q ) x1 (-1) 8 S1 hE
  · refine j_aload_n C dX12_split_7 0 rfl ?_
    refine j_bipush (v := (-2)) C dX12_split_8 jc_bp_m2 ?_
    refine k_X12_87_X12_bad C dX12_split_10 hE (Nat.le_of_ble_eq_true rfl) (Nat.le_of_ble_eq_true rfl) (Nat.le_of_ble_eq_true rfl) (fun v4 S3 hE => ?_)
    exact j_iret C Q dX12_split_13 hE
theorem c_X12_split {l : Launch} {D : va_G} {ad : Nat → Nat} {cy : Nat → ClassId} (hO : jOk (jMain D ad cy)) (x1 : Int32) (S : jS) {z : Int32 × jS} (hz : f_X12_split x1 S = some z) : Met l yX12_split (.code yX12_split cX12_split 5 (some .int) :: jT) { frames := 5, cells := 0, slots := 0, locals := 113 } (va_Pc [.ref (ad 41), .int x1] (jInv (jMain D ad cy) S)) (jQ (jMain D ad cy) (some (.int z.1), z.2)) 0 0 (yA (jMain D ad cy)) :=
  jMet hO (by decide +kernel) rfl (Nat.le_of_ble_eq_true rfl) (fun X _ C Q => p_X12_split_e C Q x1 S hz)
set_option maxRecDepth 100000 in
theorem p_X11_emptyBehind_50 {X : jX} {D : va_G} {ad : Nat → Nat} {cy : Nat → ClassId} (C : jC X (jMain D ad cy) RX11 cX11_emptyBehind (some .int) 4 1 20) {z : Int32 × jS} (Q : jRet X (jMain D ad cy) (some (.int z.1), z.2)) {g : Int32 → Int32 → jS → Option (Int32 × jS)} (hg : ∀ (x1 : Int32) (x2 : Int32) (S : jS), g x1 x2 S = some z → jJ X (jMain D ad cy) 2 [(0, .ref (ad 0)), (1, .int x1), (2, .int x2)] [] S) {k48 : Int32 → jS → Option (Int32 × jS)} (hk48 : ∀ (x3 : Int32) (S : jS), k48 x3 S = some z → jJ X (jMain D ad cy) 48 [(3, .int x3)] [] S) {k56 : jS → Option (Int32 × jS)} (hk56 : ∀  (S : jS), k56  S = some z → jJ X (jMain D ad cy) 56 [] [] S) (x1 : Int32) (x2 : Int32) (S : jS) (hE : f_X11_emptyBehind_50 g k48 k56 x1 x2 S = some z) : jJ X (jMain D ad cy) 50 [(0, .ref (ad 0)), (1, .int x1), (2, .int x2)] [] S := by
  unfold f_X11_emptyBehind_50 at hE
  refine j_iinc (v := (x2 + 1)) (lv' := [(2, .int (x2 + 1)), (0, .ref (ad 0)), (1, .int x1)]) C dX11_emptyBehind_50 2 rfl (congrArg (fun w => x2 + w) jc_ic_1) (by decide) rfl ?_
  refine j_goto (tgt := 2) C dX11_emptyBehind_53 rfl ?_
  refine j_sub [1, 2, 0] rfl ?_
  exact hg x1 (x2 + 1) S hE
set_option maxRecDepth 100000 in
theorem p_X11_emptyBehind_28 {X : jX} {D : va_G} {ad : Nat → Nat} {cy : Nat → ClassId} (C : jC X (jMain D ad cy) RX11 cX11_emptyBehind (some .int) 4 1 20) {z : Int32 × jS} (Q : jRet X (jMain D ad cy) (some (.int z.1), z.2)) {g : Int32 → Int32 → jS → Option (Int32 × jS)} (hg : ∀ (x1 : Int32) (x2 : Int32) (S : jS), g x1 x2 S = some z → jJ X (jMain D ad cy) 2 [(0, .ref (ad 0)), (1, .int x1), (2, .int x2)] [] S) {k48 : Int32 → jS → Option (Int32 × jS)} (hk48 : ∀ (x3 : Int32) (S : jS), k48 x3 S = some z → jJ X (jMain D ad cy) 48 [(3, .int x3)] [] S) {k56 : jS → Option (Int32 × jS)} (hk56 : ∀  (S : jS), k56  S = some z → jJ X (jMain D ad cy) 56 [] [] S) (a0 : Int32) (x1 : Int32) (x2 : Int32) (S : jS) (hE : f_X11_emptyBehind_28 g k48 k56 a0 x1 x2 S = some z) : jJ X (jMain D ad cy) 28 [(0, .ref (ad 0)), (1, .int x1), (2, .int x2)] [.int a0] S := by
  unfold f_X11_emptyBehind_28 at hE
  refine j_istore_n (i := 3) (lv' := [(3, .int a0), (0, .ref (ad 0)), (1, .int x1), (2, .int x2)]) C dX11_emptyBehind_28 rfl (by decide) rfl ?_
  refine j_iload_n C dX11_emptyBehind_29 0 rfl ?_
  refine k_X11_92_X11_isHouse C dX11_emptyBehind_30 hE (Nat.le_of_ble_eq_true rfl) (Nat.le_of_ble_eq_true rfl) (Nat.le_of_ble_eq_true rfl) (fun v2 S1 hE => ?_)
  refine j_if_eq (tgt := 50) C dX11_emptyBehind_33 rfl hE (fun hE => ?_) (fun hE => ?_)
  · refine j_sub [1, 2, 3] rfl ?_
    exact p_X11_emptyBehind_50 C Q hg hk48 hk56 x1 x2 S1 hE
  · refine j_aload_n C dX11_emptyBehind_36 1 rfl ?_
    refine g_X11_44_0 C dX11_emptyBehind_37 ?_
    refine g_X11_96_21 C dX11_emptyBehind_40 ?_
    refine j_iload_n C dX11_emptyBehind_43 0 rfl ?_
    refine l_22 C dX11_emptyBehind_44 hE (fun v3 hE => ?_)
    refine j_if_ne (tgt := 50) C dX11_emptyBehind_45 rfl hE (fun hE => ?_) (fun hE => ?_)
    · refine j_sub [1, 2, 3] rfl ?_
      exact p_X11_emptyBehind_50 C Q hg hk48 hk56 x1 x2 S1 hE
    · refine j_sub [0] rfl ?_
      exact hk48 a0 S1 hE
set_option maxRecDepth 100000 in
theorem p_X11_emptyBehind_2 {X : jX} {D : va_G} {ad : Nat → Nat} {cy : Nat → ClassId} (C : jC X (jMain D ad cy) RX11 cX11_emptyBehind (some .int) 4 1 20) {z : Int32 × jS} (Q : jRet X (jMain D ad cy) (some (.int z.1), z.2)) {g : Int32 → Int32 → jS → Option (Int32 × jS)} (hg : ∀ (x1 : Int32) (x2 : Int32) (S : jS), g x1 x2 S = some z → jJ X (jMain D ad cy) 2 [(0, .ref (ad 0)), (1, .int x1), (2, .int x2)] [] S) {k48 : Int32 → jS → Option (Int32 × jS)} (hk48 : ∀ (x3 : Int32) (S : jS), k48 x3 S = some z → jJ X (jMain D ad cy) 48 [(3, .int x3)] [] S) {k56 : jS → Option (Int32 × jS)} (hk56 : ∀  (S : jS), k56  S = some z → jJ X (jMain D ad cy) 56 [] [] S) (x1 : Int32) (x2 : Int32) (S : jS) (hE : f_X11_emptyBehind_2 g k48 k56 x1 x2 S = some z) : jJ X (jMain D ad cy) 2 [(0, .ref (ad 0)), (1, .int x1), (2, .int x2)] [] S := by
  unfold f_X11_emptyBehind_2 at hE
  refine j_iload_n C dX11_emptyBehind_2 2 rfl ?_
  refine j_bipush (v := 8) C dX11_emptyBehind_3 jc_bp_8 ?_
  refine j_icmp_ge (tgt := 56) C dX11_emptyBehind_5 rfl hE (fun hE => ?_) (fun hE => ?_)
  · refine j_sub [] rfl ?_
    exact hk56  S hE
  · refine j_iload_n C dX11_emptyBehind_8 1 rfl ?_
    refine j_iload_n C dX11_emptyBehind_9 2 rfl ?_
    refine j_iadd C dX11_emptyBehind_10 ?_
    refine j_bipush (v := 8) C dX11_emptyBehind_11 jc_bp_8 ?_
    refine j_icmp_ge (tgt := 22) C dX11_emptyBehind_13 rfl hE (fun hE => ?_) (fun hE => ?_)
    · refine j_iload_n C dX11_emptyBehind_22 1 rfl ?_
      refine j_iload_n C dX11_emptyBehind_23 2 rfl ?_
      refine j_iadd C dX11_emptyBehind_24 ?_
      refine j_bipush (v := 8) C dX11_emptyBehind_25 jc_bp_8 ?_
      refine j_isub C dX11_emptyBehind_27 ?_
      exact p_X11_emptyBehind_28 C Q hg hk48 hk56 ((x1 + x2) - 8) x1 x2 S hE
    · refine j_iload_n C dX11_emptyBehind_16 1 rfl ?_
      refine j_iload_n C dX11_emptyBehind_17 2 rfl ?_
      refine j_iadd C dX11_emptyBehind_18 ?_
      refine j_goto (tgt := 28) C dX11_emptyBehind_19 rfl ?_
      exact p_X11_emptyBehind_28 C Q hg hk48 hk56 (x1 + x2) x1 x2 S hE
theorem q_X11_emptyBehind_2 {X : jX} {D : va_G} {ad : Nat → Nat} {cy : Nat → ClassId} (C : jC X (jMain D ad cy) RX11 cX11_emptyBehind (some .int) 4 1 20) {z : Int32 × jS} (Q : jRet X (jMain D ad cy) (some (.int z.1), z.2)) {k48 : Int32 → jS → Option (Int32 × jS)} (hk48 : ∀ (x3 : Int32) (S : jS), k48 x3 S = some z → jJ X (jMain D ad cy) 48 [(3, .int x3)] [] S) {k56 : jS → Option (Int32 × jS)} (hk56 : ∀  (S : jS), k56  S = some z → jJ X (jMain D ad cy) 56 [] [] S) (x1 : Int32) (x2 : Int32) (S : jS) (hE : lp_X11_emptyBehind_2 k48 k56 x1 x2 S = some z) : jJ X (jMain D ad cy) 2 [(0, .ref (ad 0)), (1, .int x1), (2, .int x2)] [] S :=
  jloop_P (α := Int32 × Int32 × jS) (B := (fun g q => f_X11_emptyBehind_2 (fun x1 x2 S => g (x1, x2, S)) k48 k56 q.1 q.2.1 q.2.2)) (P := fun q => jJ X (jMain D ad cy) 2 [(0, .ref (ad 0)), (1, .int q.1), (2, .int q.2.1)] [] q.2.2) (fun g q hg h => p_X11_emptyBehind_2 C Q (g := fun x1 x2 S => g (x1, x2, S)) (fun x1 x2 S h => hg (x1, x2, S) h) hk48 hk56 q.1 q.2.1 q.2.2 h) jN (x1, x2, S) hE
set_option maxRecDepth 100000 in
theorem p_X11_emptyBehind_48 {X : jX} {D : va_G} {ad : Nat → Nat} {cy : Nat → ClassId} (C : jC X (jMain D ad cy) RX11 cX11_emptyBehind (some .int) 4 1 20) {z : Int32 × jS} (Q : jRet X (jMain D ad cy) (some (.int z.1), z.2))  (x3 : Int32) (S : jS) (hE : f_X11_emptyBehind_48  x3 S = some z) : jJ X (jMain D ad cy) 48 [(3, .int x3)] [] S := by
  unfold f_X11_emptyBehind_48 at hE
  refine j_iload_n C dX11_emptyBehind_48 0 rfl ?_
  exact j_iret C Q dX11_emptyBehind_49 hE
set_option maxRecDepth 100000 in
theorem p_X11_emptyBehind_56 {X : jX} {D : va_G} {ad : Nat → Nat} {cy : Nat → ClassId} (C : jC X (jMain D ad cy) RX11 cX11_emptyBehind (some .int) 4 1 20) {z : Int32 × jS} (Q : jRet X (jMain D ad cy) (some (.int z.1), z.2))   (S : jS) (hE : f_X11_emptyBehind_56   S = some z) : jJ X (jMain D ad cy) 56 [] [] S := by
  unfold f_X11_emptyBehind_56 at hE
  refine j_iconst (v := (-1)) C dX11_emptyBehind_56 jc_ic_m1 ?_
  exact j_iret C Q dX11_emptyBehind_57 hE
set_option maxRecDepth 100000 in
theorem p_X11_emptyBehind_e {X : jX} {D : va_G} {ad : Nat → Nat} {cy : Nat → ClassId} (C : jC X (jMain D ad cy) RX11 cX11_emptyBehind (some .int) 4 1 20) {z : Int32 × jS} (Q : jRet X (jMain D ad cy) (some (.int z.1), z.2))  (x1 : Int32) (S : jS) (hE : f_X11_emptyBehind_e  x1 S = some z) : jJ X (jMain D ad cy) 0 [(0, .ref (ad 0)), (1, .int x1)] [] S := by
  unfold f_X11_emptyBehind_e at hE
  refine j_iconst (v := 1) C dX11_emptyBehind_0 jc_ic_1 ?_
  refine j_istore_n (i := 2) (lv' := [(2, .int 1), (0, .ref (ad 0)), (1, .int x1)]) C dX11_emptyBehind_1 rfl (by decide) rfl ?_
  refine j_sub [1, 2, 0] rfl ?_
  exact q_X11_emptyBehind_2 C Q (p_X11_emptyBehind_48 C Q ) (p_X11_emptyBehind_56 C Q ) x1 1 S hE
theorem c_X11_emptyBehind {l : Launch} {D : va_G} {ad : Nat → Nat} {cy : Nat → ClassId} (hO : jOk (jMain D ad cy)) (x1 : Int32) (S : jS) {z : Int32 × jS} (hz : f_X11_emptyBehind x1 S = some z) : Met l yX11_emptyBehind (.code yX11_emptyBehind cX11_emptyBehind 4 (some .int) :: jT) { frames := 1, cells := 0, slots := 0, locals := 20 } (va_Pc [.ref (ad 0), .int x1] (jInv (jMain D ad cy) S)) (jQ (jMain D ad cy) (some (.int z.1), z.2)) 0 0 (yA (jMain D ad cy)) :=
  jMet hO (by decide +kernel) rfl (Nat.le_of_ble_eq_true rfl) (fun X _ C Q => p_X11_emptyBehind_e C Q x1 S hz)
theorem k_X11_241_X11_emptyBehind {X : jX} {D : va_G} {ad : Nat → Nat} {cy : Nat → ClassId} {cc : ByteArray} {ret : Option FieldType} {nL fr lo pc : Nat} {lv : List (Nat × Value)} {st : List Value} {S : jS} {β : Type} {z : β} (C : jC X (jMain D ad cy) RX11 cc ret nL fr lo) {a0 : Int32} {E : Int32 → jS → Option β} (d : decode cc pc = .ok (.invokevirtual 241, 3)) (hE : jcl (f_X11_emptyBehind a0 S) E = some z) (hfr : 2 ≤ fr) (hlo : 43 ≤ lo) (hst : (st.map fun v => v.category).sum ≤ 8) (K : ∀ (v : Int32) (S1 : jS), E v S1 = some z → jJ X (jMain D ad cy) (pc + 3) lv (.int v :: st) S1) : jJ X (jMain D ad cy) pc lv (.int a0 :: .ref (ad 0) :: st) S := by
  obtain ⟨v, h1, h2⟩ := jcl_some hE
  exact j_callV (k := 0) (ci := 11) (T := TX11) (N := 16) (n := 1) (As := [.int a0]) C (c_X11_emptyBehind C.2.2.2.2.2.2.1 a0 S h1) tw_801 tw_803 tw_29 tw_70 tw_804 (by decide +kernel) rfl (by decide : 0 < 56) rfl rfl hfr hlo hst rfl d (K _ _ h2)
set_option maxRecDepth 100000 in
theorem p_X2_quarrelling_r38_39 {X : jX} {D : va_G} {ad : Nat → Nat} {cy : Nat → ClassId} (C : jC X (jMain D ad cy) RX2 cX2_quarrelling (some .int) 5 5 113) {z : Int32 × jS} (Q : jRet X (jMain D ad cy) (some (.int z.1), z.2)) {g : Int32 → Int32 → Int32 → jS → Option (Int32 × jS)} (hg : ∀ (x1 : Int32) (x3 : Int32) (x4 : Int32) (S : jS), g x1 x3 x4 S = some z → jJ X (jMain D ad cy) 5 [(0, .ref (ad 4)), (1, .int x1), (2, .ref (ad 38)), (3, .int x3), (4, .int x4)] [] S) {k45 : Int32 → jS → Option (Int32 × jS)} (hk45 : ∀ (x3 : Int32) (S : jS), k45 x3 S = some z → jJ X (jMain D ad cy) 45 [(3, .int x3)] [] S) (x1 : Int32) (x3 : Int32) (x4 : Int32) (S : jS) (hE : f_X2_quarrelling_r38_39 g k45 x1 x3 x4 S = some z) : jJ X (jMain D ad cy) 39 [(0, .ref (ad 4)), (1, .int x1), (2, .ref (ad 38)), (3, .int x3), (4, .int x4)] [] S := by
  unfold f_X2_quarrelling_r38_39 at hE
  refine j_iinc (v := (x4 + 1)) (lv' := [(4, .int (x4 + 1)), (0, .ref (ad 4)), (1, .int x1), (2, .ref (ad 38)), (3, .int x3)]) C dX2_quarrelling_39 4 rfl (congrArg (fun w => x4 + w) jc_ic_1) (by decide) rfl ?_
  refine j_goto (tgt := 5) C dX2_quarrelling_42 rfl ?_
  refine j_sub [1, 2, 3, 4, 0] rfl ?_
  exact hg x1 x3 (x4 + 1) S hE
set_option maxRecDepth 100000 in
theorem p_X2_quarrelling_r38_5 {X : jX} {D : va_G} {ad : Nat → Nat} {cy : Nat → ClassId} (C : jC X (jMain D ad cy) RX2 cX2_quarrelling (some .int) 5 5 113) {z : Int32 × jS} (Q : jRet X (jMain D ad cy) (some (.int z.1), z.2)) {g : Int32 → Int32 → Int32 → jS → Option (Int32 × jS)} (hg : ∀ (x1 : Int32) (x3 : Int32) (x4 : Int32) (S : jS), g x1 x3 x4 S = some z → jJ X (jMain D ad cy) 5 [(0, .ref (ad 4)), (1, .int x1), (2, .ref (ad 38)), (3, .int x3), (4, .int x4)] [] S) {k45 : Int32 → jS → Option (Int32 × jS)} (hk45 : ∀ (x3 : Int32) (S : jS), k45 x3 S = some z → jJ X (jMain D ad cy) 45 [(3, .int x3)] [] S) (x1 : Int32) (x3 : Int32) (x4 : Int32) (S : jS) (hE : f_X2_quarrelling_r38_5 g k45 x1 x3 x4 S = some z) : jJ X (jMain D ad cy) 5 [(0, .ref (ad 4)), (1, .int x1), (2, .ref (ad 38)), (3, .int x3), (4, .int x4)] [] S := by
  unfold f_X2_quarrelling_r38_5 at hE
  refine j_iload C dX2_quarrelling_5 4 rfl ?_
  refine j_iconst (v := 1) C dX2_quarrelling_7 jc_ic_1 ?_
  refine j_iadd C dX2_quarrelling_8 ?_
  refine j_aload_n C dX2_quarrelling_9 2 rfl ?_
  refine n_38 C dX2_quarrelling_10 ?_
  refine j_icmp_ge (tgt := 45) C dX2_quarrelling_11 rfl hE (fun hE => ?_) (fun hE => ?_)
  · refine j_sub [3] rfl ?_
    exact hk45 x3 S hE
  · refine j_aload_n C dX2_quarrelling_14 0 rfl ?_
    refine j_iload_n C dX2_quarrelling_15 1 rfl ?_
    refine j_aload_n C dX2_quarrelling_16 2 rfl ?_
    refine j_iload C dX2_quarrelling_17 4 rfl ?_
    refine l_38 C dX2_quarrelling_19 hE (fun v1 hE => ?_)
    refine j_aload_n C dX2_quarrelling_20 2 rfl ?_
    refine j_iload C dX2_quarrelling_21 4 rfl ?_
    refine j_iconst (v := 1) C dX2_quarrelling_23 jc_ic_1 ?_
    refine j_iadd C dX2_quarrelling_24 ?_
    refine l_38 C dX2_quarrelling_25 hE (fun v2 hE => ?_)
    refine k_X2_39_X2_allows C dX2_quarrelling_26 hE (Nat.le_of_ble_eq_true rfl) (Nat.le_of_ble_eq_true rfl) (Nat.le_of_ble_eq_true rfl) (fun v4 S3 hE => ?_)
    refine j_if_ne (tgt := 39) C dX2_quarrelling_29 rfl hE (fun hE => ?_) (fun hE => ?_)
    · exact p_X2_quarrelling_r38_39 C Q hg hk45 x1 x3 x4 S3 hE
    · refine j_iload_n C dX2_quarrelling_32 3 rfl ?_
      refine j_iconst (v := 1) C dX2_quarrelling_33 jc_ic_1 ?_
      refine j_iload C dX2_quarrelling_34 4 rfl ?_
      refine j_ishl C dX2_quarrelling_36 ?_
      refine j_ior C dX2_quarrelling_37 ?_
      refine j_istore_n (i := 3) (lv' := [(3, .int (x3 ||| (1 <<< (x4 &&& 31)))), (0, .ref (ad 4)), (1, .int x1), (2, .ref (ad 38)), (4, .int x4)]) C dX2_quarrelling_38 rfl (by decide) rfl ?_
      refine j_sub [1, 2, 3, 0, 4] rfl ?_
      exact p_X2_quarrelling_r38_39 C Q hg hk45 x1 (x3 ||| (1 <<< (x4 &&& 31))) x4 S3 hE
theorem q_X2_quarrelling_r38_5 {X : jX} {D : va_G} {ad : Nat → Nat} {cy : Nat → ClassId} (C : jC X (jMain D ad cy) RX2 cX2_quarrelling (some .int) 5 5 113) {z : Int32 × jS} (Q : jRet X (jMain D ad cy) (some (.int z.1), z.2)) {k45 : Int32 → jS → Option (Int32 × jS)} (hk45 : ∀ (x3 : Int32) (S : jS), k45 x3 S = some z → jJ X (jMain D ad cy) 45 [(3, .int x3)] [] S) (x1 : Int32) (x3 : Int32) (x4 : Int32) (S : jS) (hE : lp_X2_quarrelling_r38_5 k45 x1 x3 x4 S = some z) : jJ X (jMain D ad cy) 5 [(0, .ref (ad 4)), (1, .int x1), (2, .ref (ad 38)), (3, .int x3), (4, .int x4)] [] S :=
  jloop_P (α := Int32 × Int32 × Int32 × jS) (B := (fun g q => f_X2_quarrelling_r38_5 (fun x1 x3 x4 S => g (x1, x3, x4, S)) k45 q.1 q.2.1 q.2.2.1 q.2.2.2)) (P := fun q => jJ X (jMain D ad cy) 5 [(0, .ref (ad 4)), (1, .int q.1), (2, .ref (ad 38)), (3, .int q.2.1), (4, .int q.2.2.1)] [] q.2.2.2) (fun g q hg h => p_X2_quarrelling_r38_5 C Q (g := fun x1 x3 x4 S => g (x1, x3, x4, S)) (fun x1 x3 x4 S h => hg (x1, x3, x4, S) h) hk45 q.1 q.2.1 q.2.2.1 q.2.2.2 h) jN (x1, x3, x4, S) hE
set_option maxRecDepth 100000 in
theorem p_X2_quarrelling_r38_45 {X : jX} {D : va_G} {ad : Nat → Nat} {cy : Nat → ClassId} (C : jC X (jMain D ad cy) RX2 cX2_quarrelling (some .int) 5 5 113) {z : Int32 × jS} (Q : jRet X (jMain D ad cy) (some (.int z.1), z.2))  (x3 : Int32) (S : jS) (hE : f_X2_quarrelling_r38_45  x3 S = some z) : jJ X (jMain D ad cy) 45 [(3, .int x3)] [] S := by
  unfold f_X2_quarrelling_r38_45 at hE
  refine j_iload_n C dX2_quarrelling_45 0 rfl ?_
  exact j_iret C Q dX2_quarrelling_46 hE
set_option maxRecDepth 100000 in
theorem p_X2_quarrelling_r38_e {X : jX} {D : va_G} {ad : Nat → Nat} {cy : Nat → ClassId} (C : jC X (jMain D ad cy) RX2 cX2_quarrelling (some .int) 5 5 113) {z : Int32 × jS} (Q : jRet X (jMain D ad cy) (some (.int z.1), z.2))  (x1 : Int32) (S : jS) (hE : f_X2_quarrelling_r38_e  x1 S = some z) : jJ X (jMain D ad cy) 0 [(0, .ref (ad 4)), (1, .int x1), (2, .ref (ad 38))] [] S := by
  unfold f_X2_quarrelling_r38_e at hE
  refine j_iconst (v := 0) C dX2_quarrelling_0 jc_ic_0 ?_
  refine j_istore_n (i := 3) (lv' := [(3, .int 0), (0, .ref (ad 4)), (1, .int x1), (2, .ref (ad 38))]) C dX2_quarrelling_1 rfl (by decide) rfl ?_
  refine j_iconst (v := 0) C dX2_quarrelling_2 jc_ic_0 ?_
  refine j_istore (lv' := [(4, .int 0), (3, .int 0), (0, .ref (ad 4)), (1, .int x1), (2, .ref (ad 38))]) C dX2_quarrelling_3 (by decide) rfl ?_
  refine j_sub [2, 3, 4, 1, 0] rfl ?_
  exact q_X2_quarrelling_r38_5 C Q (p_X2_quarrelling_r38_45 C Q ) x1 0 0 S hE
theorem c_X2_quarrelling_r38 {l : Launch} {D : va_G} {ad : Nat → Nat} {cy : Nat → ClassId} (hO : jOk (jMain D ad cy)) (x1 : Int32) (S : jS) {z : Int32 × jS} (hz : f_X2_quarrelling_r38 x1 S = some z) : Met l yX2_quarrelling (.code yX2_quarrelling cX2_quarrelling 5 (some .int) :: jT) { frames := 5, cells := 0, slots := 0, locals := 113 } (va_Pc [.ref (ad 4), .int x1, .ref (ad 38)] (jInv (jMain D ad cy) S)) (jQ (jMain D ad cy) (some (.int z.1), z.2)) 0 0 (yA (jMain D ad cy)) :=
  jMet hO (by decide +kernel) rfl (Nat.le_of_ble_eq_true rfl) (fun X _ C Q => p_X2_quarrelling_r38_e C Q x1 S hz)
theorem k_X11_146_X2_quarrelling_r38 {X : jX} {D : va_G} {ad : Nat → Nat} {cy : Nat → ClassId} {cc : ByteArray} {ret : Option FieldType} {nL fr lo pc : Nat} {lv : List (Nat × Value)} {st : List Value} {S : jS} {β : Type} {z : β} (C : jC X (jMain D ad cy) RX11 cc ret nL fr lo) {a0 : Int32} {E : Int32 → jS → Option β} (d : decode cc pc = .ok (.invokevirtual 146, 3)) (hE : jcl (f_X2_quarrelling_r38 a0 S) E = some z) (hfr : 6 ≤ fr) (hlo : 137 ≤ lo) (hst : (st.map fun v => v.category).sum ≤ 8) (K : ∀ (v : Int32) (S1 : jS), E v S1 = some z → jJ X (jMain D ad cy) (pc + 3) lv (.int v :: st) S1) : jJ X (jMain D ad cy) pc lv (.ref (ad 38) :: .int a0 :: .ref (ad 4) :: st) S := by
  obtain ⟨v, h1, h2⟩ := jcl_some hE
  exact j_callV (k := 4) (ci := 2) (T := TX2) (N := 1) (n := 2) (As := [.int a0, .ref (ad 38)]) C (c_X2_quarrelling_r38 C.2.2.2.2.2.2.1 a0 S h1) tw_543 tw_544 tw_545 tw_72 tw_546 (by decide +kernel) rfl (by decide : 4 < 56) rfl rfl hfr hlo hst rfl d (K _ _ h2)
set_option maxRecDepth 100000 in
theorem p_X11_split_38 {X : jX} {D : va_G} {ad : Nat → Nat} {cy : Nat → ClassId} (C : jC X (jMain D ad cy) RX11 cX11_split (some .int) 4 6 137) {z : Int32 × jS} (Q : jRet X (jMain D ad cy) (some (.int z.1), z.2))   (S : jS) (hE : f_X11_split_38   S = some z) : jJ X (jMain D ad cy) 38 [] [] S := by
  unfold f_X11_split_38 at hE
  refine j_iconst (v := (-1)) C dX11_split_38 jc_ic_m1 ?_
  exact j_iret C Q dX11_split_39 hE
set_option maxRecDepth 100000 in
theorem p_X11_split_e {X : jX} {D : va_G} {ad : Nat → Nat} {cy : Nat → ClassId} (C : jC X (jMain D ad cy) RX11 cX11_split (some .int) 4 6 137) {z : Int32 × jS} (Q : jRet X (jMain D ad cy) (some (.int z.1), z.2))  (x1 : Int32) (S : jS) (hE : f_X11_split_e  x1 S = some z) : jJ X (jMain D ad cy) 0 [(0, .ref (ad 0)), (1, .int x1)] [] S := by
  unfold f_X11_split_e at hE
  refine j_iload_n C dX11_split_0 1 rfl ?_
  refine k_X11_92_X11_isHouse C dX11_split_1 hE (Nat.le_of_ble_eq_true rfl) (Nat.le_of_ble_eq_true rfl) (Nat.le_of_ble_eq_true rfl) (fun v2 S1 hE => ?_)
  refine j_if_ne (tgt := 12) C dX11_split_4 rfl hE (fun hE => ?_) (fun hE => ?_)
  · refine j_aload_n C dX11_split_12 0 rfl ?_
    refine g_X11_44_0 C dX11_split_13 ?_
    refine g_X11_96_21 C dX11_split_16 ?_
    refine j_iload_n C dX11_split_19 1 rfl ?_
    refine l_22 C dX11_split_20 hE (fun v3 hE => ?_)
    refine j_istore_n (i := 2) (lv' := [(2, .int v3), (0, .ref (ad 0)), (1, .int x1)]) C dX11_split_21 rfl (by decide) rfl ?_
    refine j_aload_n C dX11_split_22 1 rfl ?_
    refine j_iload_n C dX11_split_23 2 rfl ?_
    refine k_X11_241_X11_emptyBehind C dX11_split_24 hE (Nat.le_of_ble_eq_true rfl) (Nat.le_of_ble_eq_true rfl) (Nat.le_of_ble_eq_true rfl) (fun v5 S4 hE => ?_)
    refine j_istore_n (i := 3) (lv' := [(3, .int v5), (2, .int v3), (0, .ref (ad 0)), (1, .int x1)]) C dX11_split_27 rfl (by decide) rfl ?_
    refine j_iload_n C dX11_split_28 1 rfl ?_
    refine j_iconst (v := 2) C dX11_split_29 jc_ic_2 ?_
    refine j_icmp_lt (tgt := 38) C dX11_split_30 rfl hE (fun hE => ?_) (fun hE => ?_)
    · refine j_sub [] rfl ?_
      exact p_X11_split_38 C Q   S4 hE
    · refine j_iload_n C dX11_split_33 0 rfl ?_
      refine j_iconst (v := (-1)) C dX11_split_34 jc_ic_m1 ?_
      refine j_icmp_ne (tgt := 40) C dX11_split_35 rfl hE (fun hE => ?_) (fun hE => ?_)
      · refine j_aload_n C dX11_split_40 2 rfl ?_
        refine g_X11_44_0 C dX11_split_41 ?_
        refine g_X11_96_21 C dX11_split_44 ?_
        refine j_iconst (v := 0) C dX11_split_47 jc_ic_0 ?_
        refine j_aload_n C dX11_split_48 2 rfl ?_
        refine g_X11_56_0 C dX11_split_49 ?_
        refine j_iconst (v := 0) C dX11_split_52 jc_ic_0 ?_
        refine j_bipush (v := 8) C dX11_split_53 jc_bp_8 ?_
        refine y_X11_123_22_38 C dX11_split_55 (Nat.le_of_ble_eq_true rfl) (by decide) hE (fun S6 hE => ?_)
        refine j_aload_n C dX11_split_58 2 rfl ?_
        refine g_X11_56_0 C dX11_split_59 ?_
        refine j_iload_n C dX11_split_62 3 rfl ?_
        refine j_iload_n C dX11_split_63 1 rfl ?_
        refine j_iconst (v := 2) C dX11_split_64 jc_ic_2 ?_
        refine j_idiv C dX11_split_65 hE (fun v7 hE => ?_)
        refine s_38 C dX11_split_66 hE (fun S8 hE => ?_)
        refine j_aload_n C dX11_split_67 2 rfl ?_
        refine g_X11_56_0 C dX11_split_68 ?_
        refine j_iload_n C dX11_split_71 0 rfl ?_
        refine j_iload_n C dX11_split_72 1 rfl ?_
        refine j_iload_n C dX11_split_73 1 rfl ?_
        refine j_iconst (v := 2) C dX11_split_74 jc_ic_2 ?_
        refine j_idiv C dX11_split_75 hE (fun v9 hE => ?_)
        refine j_isub C dX11_split_76 ?_
        refine s_38 C dX11_split_77 hE (fun S10 hE => ?_)
        refine j_aload_n C dX11_split_78 2 rfl ?_
        refine g_X11_21_0 C dX11_split_79 ?_
        refine j_aload_n C dX11_split_82 2 rfl ?_
        refine g_X11_44_0 C dX11_split_83 ?_
        refine g_X11_85_21 C dX11_split_86 ?_
        refine j_aload_n C dX11_split_89 2 rfl ?_
        refine g_X11_56_0 C dX11_split_90 ?_
        refine k_X11_146_X2_quarrelling_r38 C dX11_split_93 hE (Nat.le_of_ble_eq_true rfl) (Nat.le_of_ble_eq_true rfl) (Nat.le_of_ble_eq_true rfl) (fun v12 S11 hE => ?_)
        refine k_X11_163_J6_bitCount_0f7a4 C dX11_split_96 hE (Nat.le_of_ble_eq_true rfl) (Nat.le_of_ble_eq_true rfl) (Nat.le_of_ble_eq_true rfl) (fun v14 S13 hE => ?_)
        exact j_iret C Q dX11_split_99 hE
      · refine j_sub [] rfl ?_
        exact p_X11_split_38 C Q   S4 hE
  · refine j_aload_n C dX11_split_7 0 rfl ?_
    refine k_X11_74_X11_refuseBad C dX11_split_8 hE (Nat.le_of_ble_eq_true rfl) (Nat.le_of_ble_eq_true rfl) (Nat.le_of_ble_eq_true rfl) (fun v16 S15 hE => ?_)
    exact j_iret C Q dX11_split_11 hE
theorem c_X11_split {l : Launch} {D : va_G} {ad : Nat → Nat} {cy : Nat → ClassId} (hO : jOk (jMain D ad cy)) (x1 : Int32) (S : jS) {z : Int32 × jS} (hz : f_X11_split x1 S = some z) : Met l yX11_split (.code yX11_split cX11_split 4 (some .int) :: jT) { frames := 6, cells := 0, slots := 0, locals := 137 } (va_Pc [.ref (ad 0), .int x1] (jInv (jMain D ad cy) S)) (jQ (jMain D ad cy) (some (.int z.1), z.2)) 0 0 (yA (jMain D ad cy)) :=
  jMet hO (by decide +kernel) rfl (Nat.le_of_ble_eq_true rfl) (fun X _ C Q => p_X11_split_e C Q x1 S hz)
set_option maxRecDepth 100000 in
theorem p_X12_fraction_6 {X : jX} {D : va_G} {ad : Nat → Nat} {cy : Nat → ClassId} (C : jC X (jMain D ad cy) RX12 cX12_fraction (none) 11 0 0) {z : jS} (Q : jRet X (jMain D ad cy) (none, z)) {g : Int64 → Int64 → Int64 → Int64 → jS → Option (jS)} (hg : ∀ (x1 : Int64) (x3 : Int64) (x5 : Int64) (x7 : Int64) (S : jS), g x1 x3 x5 x7 S = some z → jJ X (jMain D ad cy) 6 [(0, .ref (ad 41)), (1, .long x1), (3, .long x3), (5, .long x5), (7, .long x7)] [] S) {k31 : Int64 → Int64 → Int64 → jS → Option (jS)} (hk31 : ∀ (x1 : Int64) (x3 : Int64) (x5 : Int64) (S : jS), k31 x1 x3 x5 S = some z → jJ X (jMain D ad cy) 31 [(0, .ref (ad 41)), (1, .long x1), (3, .long x3), (5, .long x5)] [] S) (x1 : Int64) (x3 : Int64) (x5 : Int64) (x7 : Int64) (S : jS) (hE : f_X12_fraction_6 g k31 x1 x3 x5 x7 S = some z) : jJ X (jMain D ad cy) 6 [(0, .ref (ad 41)), (1, .long x1), (3, .long x3), (5, .long x5), (7, .long x7)] [] S := by
  unfold f_X12_fraction_6 at hE
  refine j_lload C dX12_fraction_6 4 rfl ?_
  refine j_lconst (v := 0) C dX12_fraction_8 jc_lc_0 ?_
  refine j_lcmp C dX12_fraction_9 ?_
  refine j_if_eq (tgt := 31) C dX12_fraction_10 rfl hE (fun hE => ?_) (fun hE => ?_)
  · refine j_sub [0, 1, 2, 3] rfl ?_
    exact hk31 x1 x3 x5 S hE
  · refine j_lload C dX12_fraction_13 3 rfl ?_
    refine j_lload C dX12_fraction_15 4 rfl ?_
    refine j_lrem C dX12_fraction_17 hE (fun v1 hE => ?_)
    refine j_lstore (lv' := [(9, .long v1), (0, .ref (ad 41)), (1, .long x1), (3, .long x3), (5, .long x5), (7, .long x7)]) C dX12_fraction_18 (by decide) rfl ?_
    refine j_lload C dX12_fraction_20 5 rfl ?_
    refine j_lstore (lv' := [(5, .long x7), (9, .long v1), (0, .ref (ad 41)), (1, .long x1), (3, .long x3), (7, .long x7)]) C dX12_fraction_22 (by decide) rfl ?_
    refine j_lload C dX12_fraction_24 1 rfl ?_
    refine j_lstore (lv' := [(7, .long v1), (5, .long x7), (9, .long v1), (0, .ref (ad 41)), (1, .long x1), (3, .long x3)]) C dX12_fraction_26 (by decide) rfl ?_
    refine j_goto (tgt := 6) C dX12_fraction_28 rfl ?_
    refine j_sub [3, 4, 5, 1, 0] rfl ?_
    exact hg x1 x3 x7 v1 S hE
theorem q_X12_fraction_6 {X : jX} {D : va_G} {ad : Nat → Nat} {cy : Nat → ClassId} (C : jC X (jMain D ad cy) RX12 cX12_fraction (none) 11 0 0) {z : jS} (Q : jRet X (jMain D ad cy) (none, z)) {k31 : Int64 → Int64 → Int64 → jS → Option (jS)} (hk31 : ∀ (x1 : Int64) (x3 : Int64) (x5 : Int64) (S : jS), k31 x1 x3 x5 S = some z → jJ X (jMain D ad cy) 31 [(0, .ref (ad 41)), (1, .long x1), (3, .long x3), (5, .long x5)] [] S) (x1 : Int64) (x3 : Int64) (x5 : Int64) (x7 : Int64) (S : jS) (hE : lp_X12_fraction_6 k31 x1 x3 x5 x7 S = some z) : jJ X (jMain D ad cy) 6 [(0, .ref (ad 41)), (1, .long x1), (3, .long x3), (5, .long x5), (7, .long x7)] [] S :=
  jloop_P (α := Int64 × Int64 × Int64 × Int64 × jS) (B := (fun g q => f_X12_fraction_6 (fun x1 x3 x5 x7 S => g (x1, x3, x5, x7, S)) k31 q.1 q.2.1 q.2.2.1 q.2.2.2.1 q.2.2.2.2)) (P := fun q => jJ X (jMain D ad cy) 6 [(0, .ref (ad 41)), (1, .long q.1), (3, .long q.2.1), (5, .long q.2.2.1), (7, .long q.2.2.2.1)] [] q.2.2.2.2) (fun g q hg h => p_X12_fraction_6 C Q (g := fun x1 x3 x5 x7 S => g (x1, x3, x5, x7, S)) (fun x1 x3 x5 x7 S h => hg (x1, x3, x5, x7, S) h) hk31 q.1 q.2.1 q.2.2.1 q.2.2.2.1 q.2.2.2.2 h) jN (x1, x3, x5, x7, S) hE
set_option maxRecDepth 100000 in
theorem p_X12_fraction_31 {X : jX} {D : va_G} {ad : Nat → Nat} {cy : Nat → ClassId} (C : jC X (jMain D ad cy) RX12 cX12_fraction (none) 11 0 0) {z : jS} (Q : jRet X (jMain D ad cy) (none, z))  (x1 : Int64) (x3 : Int64) (x5 : Int64) (S : jS) (hE : f_X12_fraction_31  x1 x3 x5 S = some z) : jJ X (jMain D ad cy) 31 [(0, .ref (ad 41)), (1, .long x1), (3, .long x3), (5, .long x5)] [] S := by
  unfold f_X12_fraction_31 at hE
  refine j_aload_n C dX12_fraction_31 0 rfl ?_
  refine j_lload_n C dX12_fraction_32 1 rfl ?_
  refine j_lload C dX12_fraction_33 3 rfl ?_
  refine j_ldiv C dX12_fraction_35 hE (fun v1 hE => ?_)
  refine p_X12_207_41 C dX12_fraction_36 hE (fun S2 hE => ?_)
  refine j_aload_n C dX12_fraction_39 0 rfl ?_
  refine j_lload_n C dX12_fraction_40 2 rfl ?_
  refine j_lload C dX12_fraction_41 3 rfl ?_
  refine j_ldiv C dX12_fraction_43 hE (fun v3 hE => ?_)
  refine p_X12_26_41 C dX12_fraction_44 hE (fun S4 hE => ?_)
  exact j_vret C Q dX12_fraction_47 hE
set_option maxRecDepth 100000 in
theorem p_X12_fraction_e {X : jX} {D : va_G} {ad : Nat → Nat} {cy : Nat → ClassId} (C : jC X (jMain D ad cy) RX12 cX12_fraction (none) 11 0 0) {z : jS} (Q : jRet X (jMain D ad cy) (none, z))  (x1 : Int64) (x3 : Int64) (S : jS) (hE : f_X12_fraction_e  x1 x3 S = some z) : jJ X (jMain D ad cy) 0 [(0, .ref (ad 41)), (1, .long x1), (3, .long x3)] [] S := by
  unfold f_X12_fraction_e at hE
  refine j_lload_n C dX12_fraction_0 1 rfl ?_
  refine j_lstore (lv' := [(5, .long x1), (0, .ref (ad 41)), (1, .long x1), (3, .long x3)]) C dX12_fraction_1 (by decide) rfl ?_
  refine j_lload_n C dX12_fraction_3 3 rfl ?_
  refine j_lstore (lv' := [(7, .long x3), (5, .long x1), (0, .ref (ad 41)), (1, .long x1), (3, .long x3)]) C dX12_fraction_4 (by decide) rfl ?_
  refine j_sub [2, 3, 4, 1, 0] rfl ?_
  exact q_X12_fraction_6 C Q (p_X12_fraction_31 C Q ) x1 x3 x1 x3 S hE
theorem c_X12_fraction {l : Launch} {D : va_G} {ad : Nat → Nat} {cy : Nat → ClassId} (hO : jOk (jMain D ad cy)) (x1 : Int64) (x3 : Int64) (S : jS) {z : jS} (hz : f_X12_fraction x1 x3 S = some z) : Met l yX12_fraction (.code yX12_fraction cX12_fraction 11 (none) :: jT) { frames := 0, cells := 0, slots := 0, locals := 0 } (va_Pc [.ref (ad 41), .long x1, .long x3] (jInv (jMain D ad cy) S)) (jQ (jMain D ad cy) (none, z)) 0 0 (yA (jMain D ad cy)) :=
  jMet hO (by decide +kernel) rfl (Nat.le_of_ble_eq_true rfl) (fun X _ C Q => p_X12_fraction_e C Q x1 x3 S hz)
theorem k_X12_212_X12_fraction {X : jX} {D : va_G} {ad : Nat → Nat} {cy : Nat → ClassId} {cc : ByteArray} {ret : Option FieldType} {nL fr lo pc : Nat} {lv : List (Nat × Value)} {st : List Value} {S : jS} {β : Type} {z : β} (C : jC X (jMain D ad cy) RX12 cc ret nL fr lo) {a0 : Int64} {a1 : Int64} {E : jS → Option β} (d : decode cc pc = .ok (.invokevirtual 212, 3)) (hE : jcv (f_X12_fraction a0 a1 S) E = some z) (hfr : 1 ≤ fr) (hlo : 30 ≤ lo) (hst : (st.map fun v => v.category).sum ≤ 8) (K : ∀ S1, E S1 = some z → jJ X (jMain D ad cy) (pc + 3) lv st S1) : jJ X (jMain D ad cy) pc lv (.long a1 :: .long a0 :: .ref (ad 41) :: st) S := by
  obtain ⟨v, h1, h2⟩ := jcv_some hE
  exact j_callV (k := 41) (ci := 12) (T := TX12) (N := 25) (n := 2) (As := [.long a0, .long a1]) C (c_X12_fraction C.2.2.2.2.2.2.1 a0 a1 S h1) tw_1201 tw_1203 tw_61 tw_82 tw_1204 (by decide +kernel) rfl (by decide : 41 < 56) rfl rfl hfr hlo hst rfl d (K _ h2)
