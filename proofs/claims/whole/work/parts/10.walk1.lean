set_option maxRecDepth 100000 in
theorem p_X12_in_18 {X : jX} {D : va_G} {ad : Nat → Nat} {cy : Nat → ClassId} (C : jC X (jMain D ad cy) RX12 cX12_in (some .boolean) 6 0 0) {z : Int32 × jS} (Q : jRet X (jMain D ad cy) (some (.int z.1), z.2))  (a0 : Int32) (S : jS) (hE : f_X12_in_18   a0 S = some z) : jJ X (jMain D ad cy) 18 [] [.int a0] S := by
  unfold f_X12_in_18 at hE
  exact j_zret C Q dX12_in_18 hE
set_option maxRecDepth 100000 in
theorem p_X12_in_17 {X : jX} {D : va_G} {ad : Nat → Nat} {cy : Nat → ClassId} (C : jC X (jMain D ad cy) RX12 cX12_in (some .boolean) 6 0 0) {z : Int32 × jS} (Q : jRet X (jMain D ad cy) (some (.int z.1), z.2))   (S : jS) (hE : f_X12_in_17    S = some z) : jJ X (jMain D ad cy) 17 [] [] S := by
  unfold f_X12_in_17 at hE
  refine j_iconst (v := 0) C dX12_in_17 jc_ic_0 ?_
  exact p_X12_in_18 C Q  0 S hE
set_option maxRecDepth 100000 in
theorem p_X12_in_e {X : jX} {D : va_G} {ad : Nat → Nat} {cy : Nat → ClassId} (C : jC X (jMain D ad cy) RX12 cX12_in (some .boolean) 6 0 0) {z : Int32 × jS} (Q : jRet X (jMain D ad cy) (some (.int z.1), z.2))  (x0 : Int64) (x2 : Int64) (x4 : Int64) (S : jS) (hE : f_X12_in_e   x0 x2 x4 S = some z) : jJ X (jMain D ad cy) 0 [(0, .long x0), (2, .long x2), (4, .long x4)] [] S := by
  unfold f_X12_in_e at hE
  refine j_lload_n C dX12_in_0 0 rfl ?_
  refine j_lload_n C dX12_in_1 1 rfl ?_
  refine j_lcmp C dX12_in_2 ?_
  refine j_if_lt (tgt := 17) C dX12_in_3 rfl hE (fun hE => ?_) (fun hE => ?_)
  · refine j_sub [] rfl ?_
    exact p_X12_in_17 C Q   S hE
  · refine j_lload_n C dX12_in_6 0 rfl ?_
    refine j_lload C dX12_in_7 2 rfl ?_
    refine j_lcmp C dX12_in_9 ?_
    refine j_if_gt (tgt := 17) C dX12_in_10 rfl hE (fun hE => ?_) (fun hE => ?_)
    · refine j_sub [] rfl ?_
      exact p_X12_in_17 C Q   S hE
    · refine j_iconst (v := 1) C dX12_in_13 jc_ic_1 ?_
      refine j_goto (tgt := 18) C dX12_in_14 rfl ?_
      refine j_sub [] rfl ?_
      exact p_X12_in_18 C Q  1 S hE
theorem c_X12_in {l : Launch} {D : va_G} {ad : Nat → Nat} {cy : Nat → ClassId} (hO : jOk (jMain D ad cy)) (x0 : Int64) (x2 : Int64) (x4 : Int64) (S : jS) {z : Int32 × jS} (hz : f_X12_in x0 x2 x4 S = some z) : Met l yX12_in (.code yX12_in cX12_in 6 (some .boolean) :: jT) { frames := 0, cells := 0, slots := 0, locals := 0 } (va_Pc [.long x0, .long x2, .long x4] (jInv (jMain D ad cy) S)) (jQ (jMain D ad cy) (some (.int z.1), z.2)) 0 0 (yA (jMain D ad cy)) :=
  jMet hO (by decide +kernel) rfl (Nat.le_of_ble_eq_true rfl) (fun X _ C Q => p_X12_in_e C Q x0 x2 x4 S hz)
theorem k_X12_59_X12_in {X : jX} {D : va_G} {ad : Nat → Nat} {cy : Nat → ClassId} {cc : ByteArray} {ret : Option FieldType} {nL fr lo pc : Nat} {lv : List (Nat × Value)} {st : List Value} {S : jS} {β : Type} {z : β} (C : jC X (jMain D ad cy) RX12 cc ret nL fr lo) {a0 : Int64} {a1 : Int64} {a2 : Int64} {E : Int32 → jS → Option β} (d : decode cc pc = .ok (.invokestatic 59, 3)) (hE : jcl (f_X12_in a0 a1 a2 S) E = some z) (hfr : 1 ≤ fr) (hlo : 25 ≤ lo) (hst : (st.map fun v => v.category).sum ≤ 8) (K : ∀ (v : Int32) (S1 : jS), E v S1 = some z → jJ X (jMain D ad cy) (pc + 3) lv (.int v :: st) S1) : jJ X (jMain D ad cy) pc lv (.long a2 :: .long a1 :: .long a0 :: st) S := by
  obtain ⟨v, h1, h2⟩ := jcl_some hE
  exact j_callS (n := 3) (As := [.long a0, .long a1, .long a2]) C (c_X12_in C.2.2.2.2.2.2.1 a0 a1 a2 S h1) tw_957 tw_958 tw_81 tw_959 (by decide +kernel) rfl hfr hlo hst rfl d (K _ _ h2)
set_option maxRecDepth 100000 in
theorem p_X12_isLaw_29 {X : jX} {D : va_G} {ad : Nat → Nat} {cy : Nat → ClassId} (C : jC X (jMain D ad cy) RX12 cX12_isLaw (some .boolean) 2 1 25) {z : Int32 × jS} (Q : jRet X (jMain D ad cy) (some (.int z.1), z.2))  (a0 : Int32) (S : jS) (hE : f_X12_isLaw_29   a0 S = some z) : jJ X (jMain D ad cy) 29 [] [.int a0] S := by
  unfold f_X12_isLaw_29 at hE
  exact j_zret C Q dX12_isLaw_29 hE
set_option maxRecDepth 100000 in
theorem p_X12_isLaw_28 {X : jX} {D : va_G} {ad : Nat → Nat} {cy : Nat → ClassId} (C : jC X (jMain D ad cy) RX12 cX12_isLaw (some .boolean) 2 1 25) {z : Int32 × jS} (Q : jRet X (jMain D ad cy) (some (.int z.1), z.2))   (S : jS) (hE : f_X12_isLaw_28    S = some z) : jJ X (jMain D ad cy) 28 [] [] S := by
  unfold f_X12_isLaw_28 at hE
  refine j_iconst (v := 0) C dX12_isLaw_28 jc_ic_0 ?_
  exact p_X12_isLaw_29 C Q  0 S hE
set_option maxRecDepth 100000 in
theorem p_X12_isLaw_e {X : jX} {D : va_G} {ad : Nat → Nat} {cy : Nat → ClassId} (C : jC X (jMain D ad cy) RX12 cX12_isLaw (some .boolean) 2 1 25) {z : Int32 × jS} (Q : jRet X (jMain D ad cy) (some (.int z.1), z.2))  (x0 : Int32) (x1 : Int32) (S : jS) (hE : f_X12_isLaw_e   x0 x1 S = some z) : jJ X (jMain D ad cy) 0 [(0, .int x0), (1, .int x1)] [] S := by
  unfold f_X12_isLaw_e at hE
  refine j_iload_n C dX12_isLaw_0 0 rfl ?_
  refine j_i2l C dX12_isLaw_1 ?_
  refine j_lconst (v := 0) C dX12_isLaw_2 jc_lc_0 ?_
  refine j_ldc2 (v := 5) C dX12_isLaw_3 tw_956 ?_
  refine k_X12_59_X12_in C dX12_isLaw_6 hE (Nat.le_of_ble_eq_true rfl) (Nat.le_of_ble_eq_true rfl) (Nat.le_of_ble_eq_true rfl) (fun v2 S1 hE => ?_)
  refine j_if_eq (tgt := 28) C dX12_isLaw_9 rfl hE (fun hE => ?_) (fun hE => ?_)
  · refine j_sub [] rfl ?_
    exact p_X12_isLaw_28 C Q   S1 hE
  · refine j_iload_n C dX12_isLaw_12 1 rfl ?_
    refine j_i2l C dX12_isLaw_13 ?_
    refine j_lconst (v := 0) C dX12_isLaw_14 jc_lc_0 ?_
    refine j_ldc2 (v := 9) C dX12_isLaw_15 tw_960 ?_
    refine k_X12_59_X12_in C dX12_isLaw_18 hE (Nat.le_of_ble_eq_true rfl) (Nat.le_of_ble_eq_true rfl) (Nat.le_of_ble_eq_true rfl) (fun v4 S3 hE => ?_)
    refine j_if_eq (tgt := 28) C dX12_isLaw_21 rfl hE (fun hE => ?_) (fun hE => ?_)
    · refine j_sub [] rfl ?_
      exact p_X12_isLaw_28 C Q   S3 hE
    · refine j_iconst (v := 1) C dX12_isLaw_24 jc_ic_1 ?_
      refine j_goto (tgt := 29) C dX12_isLaw_25 rfl ?_
      refine j_sub [] rfl ?_
      exact p_X12_isLaw_29 C Q  1 S3 hE
theorem c_X12_isLaw {l : Launch} {D : va_G} {ad : Nat → Nat} {cy : Nat → ClassId} (hO : jOk (jMain D ad cy)) (x0 : Int32) (x1 : Int32) (S : jS) {z : Int32 × jS} (hz : f_X12_isLaw x0 x1 S = some z) : Met l yX12_isLaw (.code yX12_isLaw cX12_isLaw 2 (some .boolean) :: jT) { frames := 1, cells := 0, slots := 0, locals := 25 } (va_Pc [.int x0, .int x1] (jInv (jMain D ad cy) S)) (jQ (jMain D ad cy) (some (.int z.1), z.2)) 0 0 (yA (jMain D ad cy)) :=
  jMet hO (by decide +kernel) rfl (Nat.le_of_ble_eq_true rfl) (fun X _ C Q => p_X12_isLaw_e C Q x0 x1 S hz)
theorem k_X12_84_X12_isLaw {X : jX} {D : va_G} {ad : Nat → Nat} {cy : Nat → ClassId} {cc : ByteArray} {ret : Option FieldType} {nL fr lo pc : Nat} {lv : List (Nat × Value)} {st : List Value} {S : jS} {β : Type} {z : β} (C : jC X (jMain D ad cy) RX12 cc ret nL fr lo) {a0 : Int32} {a1 : Int32} {E : Int32 → jS → Option β} (d : decode cc pc = .ok (.invokestatic 84, 3)) (hE : jcl (f_X12_isLaw a0 a1 S) E = some z) (hfr : 2 ≤ fr) (hlo : 46 ≤ lo) (hst : (st.map fun v => v.category).sum ≤ 8) (K : ∀ (v : Int32) (S1 : jS), E v S1 = some z → jJ X (jMain D ad cy) (pc + 3) lv (.int v :: st) S1) : jJ X (jMain D ad cy) pc lv (.int a1 :: .int a0 :: st) S := by
  obtain ⟨v, h1, h2⟩ := jcl_some hE
  exact j_callS (n := 2) (As := [.int a0, .int a1]) C (c_X12_isLaw C.2.2.2.2.2.2.1 a0 a1 S h1) tw_953 tw_954 tw_81 tw_955 (by decide +kernel) rfl hfr hlo hst rfl d (K _ _ h2)
set_option maxRecDepth 100000 in
theorem p_X12_lived_27 {X : jX} {D : va_G} {ad : Nat → Nat} {cy : Nat → ClassId} (C : jC X (jMain D ad cy) RX12 cX12_lived (some .int) 3 0 0) {z : Int32 × jS} (Q : jRet X (jMain D ad cy) (some (.int z.1), z.2)) {g : Int32 → Int32 → jS → Option (Int32 × jS)} (hg : ∀ (x1 : Int32) (x2 : Int32) (S : jS), g x1 x2 S = some z → jJ X (jMain D ad cy) 4 [(0, .ref (ad 41)), (1, .int x1), (2, .int x2)] [] S) {k35 : Int32 → jS → Option (Int32 × jS)} (hk35 : ∀ (x1 : Int32) (S : jS), k35 x1 S = some z → jJ X (jMain D ad cy) 35 [(1, .int x1)] [] S) (a0 : Int32) (a1 : Int32) (x2 : Int32) (S : jS) (hE : f_X12_lived_27  g k35 a0 a1 x2 S = some z) : jJ X (jMain D ad cy) 27 [(0, .ref (ad 41)), (2, .int x2)] [.int a0, .int a1] S := by
  unfold f_X12_lived_27 at hE
  refine j_ior C dX12_lived_27 ?_
  refine j_istore_n (i := 1) (lv' := [(1, .int (a1 ||| a0)), (0, .ref (ad 41)), (2, .int x2)]) C dX12_lived_28 rfl (by decide) rfl ?_
  refine j_iinc (v := (x2 + 1)) (lv' := [(2, .int (x2 + 1)), (1, .int (a1 ||| a0)), (0, .ref (ad 41))]) C dX12_lived_29 2 rfl (congrArg (fun w => x2 + w) jc_ic_1) (by decide) rfl ?_
  refine j_goto (tgt := 4) C dX12_lived_32 rfl ?_
  refine j_sub [2, 1, 0] rfl ?_
  exact hg (a1 ||| a0) (x2 + 1) S hE
set_option maxRecDepth 100000 in
theorem p_X12_lived_4 {X : jX} {D : va_G} {ad : Nat → Nat} {cy : Nat → ClassId} (C : jC X (jMain D ad cy) RX12 cX12_lived (some .int) 3 0 0) {z : Int32 × jS} (Q : jRet X (jMain D ad cy) (some (.int z.1), z.2)) {g : Int32 → Int32 → jS → Option (Int32 × jS)} (hg : ∀ (x1 : Int32) (x2 : Int32) (S : jS), g x1 x2 S = some z → jJ X (jMain D ad cy) 4 [(0, .ref (ad 41)), (1, .int x1), (2, .int x2)] [] S) {k35 : Int32 → jS → Option (Int32 × jS)} (hk35 : ∀ (x1 : Int32) (S : jS), k35 x1 S = some z → jJ X (jMain D ad cy) 35 [(1, .int x1)] [] S) (x1 : Int32) (x2 : Int32) (S : jS) (hE : f_X12_lived_4  g k35 x1 x2 S = some z) : jJ X (jMain D ad cy) 4 [(0, .ref (ad 41)), (1, .int x1), (2, .int x2)] [] S := by
  unfold f_X12_lived_4 at hE
  refine j_iload_n C dX12_lived_4 2 rfl ?_
  refine j_bipush (v := 8) C dX12_lived_5 jc_bp_8 ?_
  refine j_icmp_ge (tgt := 35) C dX12_lived_7 rfl hE (fun hE => ?_) (fun hE => ?_)
  · refine j_sub [1] rfl ?_
    exact hk35 x1 S hE
  · refine j_iload_n C dX12_lived_10 1 rfl ?_
    refine j_aload_n C dX12_lived_11 0 rfl ?_
    refine g_X12_7_41 C dX12_lived_12 ?_
    refine j_iload_n C dX12_lived_15 2 rfl ?_
    refine l_42 C dX12_lived_16 hE (fun v1 hE => ?_)
    refine j_if_le (tgt := 26) C dX12_lived_17 rfl hE (fun hE => ?_) (fun hE => ?_)
    · refine j_iconst (v := 0) C dX12_lived_26 jc_ic_0 ?_
      refine j_sub [0, 2] rfl ?_
      exact p_X12_lived_27 C Q hg hk35 0 x1 x2 S hE
    · refine j_iconst (v := 1) C dX12_lived_20 jc_ic_1 ?_
      refine j_iload_n C dX12_lived_21 2 rfl ?_
      refine j_ishl C dX12_lived_22 ?_
      refine j_goto (tgt := 27) C dX12_lived_23 rfl ?_
      refine j_sub [0, 2] rfl ?_
      exact p_X12_lived_27 C Q hg hk35 (1 <<< (x2 &&& 31)) x1 x2 S hE
theorem q_X12_lived_4 {X : jX} {D : va_G} {ad : Nat → Nat} {cy : Nat → ClassId} (C : jC X (jMain D ad cy) RX12 cX12_lived (some .int) 3 0 0) {z : Int32 × jS} (Q : jRet X (jMain D ad cy) (some (.int z.1), z.2)) {k35 : Int32 → jS → Option (Int32 × jS)} (hk35 : ∀ (x1 : Int32) (S : jS), k35 x1 S = some z → jJ X (jMain D ad cy) 35 [(1, .int x1)] [] S) (x1 : Int32) (x2 : Int32) (S : jS) (hE : lp_X12_lived_4  k35 x1 x2 S = some z) : jJ X (jMain D ad cy) 4 [(0, .ref (ad 41)), (1, .int x1), (2, .int x2)] [] S :=
  jloop_P (α := Int32 × Int32 × jS) (B := (fun g q => f_X12_lived_4  (fun x1 x2 S => g (x1, x2, S)) k35 q.1 q.2.1 q.2.2)) (P := fun q => jJ X (jMain D ad cy) 4 [(0, .ref (ad 41)), (1, .int q.1), (2, .int q.2.1)] [] q.2.2) (fun g q hg h => p_X12_lived_4 C Q (g := fun x1 x2 S => g (x1, x2, S)) (fun x1 x2 S h => hg (x1, x2, S) h) hk35 q.1 q.2.1 q.2.2 h) jN (x1, x2, S) hE
set_option maxRecDepth 100000 in
theorem p_X12_lived_35 {X : jX} {D : va_G} {ad : Nat → Nat} {cy : Nat → ClassId} (C : jC X (jMain D ad cy) RX12 cX12_lived (some .int) 3 0 0) {z : Int32 × jS} (Q : jRet X (jMain D ad cy) (some (.int z.1), z.2))  (x1 : Int32) (S : jS) (hE : f_X12_lived_35   x1 S = some z) : jJ X (jMain D ad cy) 35 [(1, .int x1)] [] S := by
  unfold f_X12_lived_35 at hE
  refine j_iload_n C dX12_lived_35 0 rfl ?_
  exact j_iret C Q dX12_lived_36 hE
set_option maxRecDepth 100000 in
theorem p_X12_lived_e {X : jX} {D : va_G} {ad : Nat → Nat} {cy : Nat → ClassId} (C : jC X (jMain D ad cy) RX12 cX12_lived (some .int) 3 0 0) {z : Int32 × jS} (Q : jRet X (jMain D ad cy) (some (.int z.1), z.2))   (S : jS) (hE : f_X12_lived_e    S = some z) : jJ X (jMain D ad cy) 0 [(0, .ref (ad 41))] [] S := by
  unfold f_X12_lived_e at hE
  refine j_iconst (v := 0) C dX12_lived_0 jc_ic_0 ?_
  refine j_istore_n (i := 1) (lv' := [(1, .int 0), (0, .ref (ad 41))]) C dX12_lived_1 rfl (by decide) rfl ?_
  refine j_iconst (v := 0) C dX12_lived_2 jc_ic_0 ?_
  refine j_istore_n (i := 2) (lv' := [(2, .int 0), (1, .int 0), (0, .ref (ad 41))]) C dX12_lived_3 rfl (by decide) rfl ?_
  refine j_sub [2, 1, 0] rfl ?_
  exact q_X12_lived_4 C Q (p_X12_lived_35 C Q ) 0 0 S hE
theorem c_X12_lived {l : Launch} {D : va_G} {ad : Nat → Nat} {cy : Nat → ClassId} (hO : jOk (jMain D ad cy))  (S : jS) {z : Int32 × jS} (hz : f_X12_lived  S = some z) : Met l yX12_lived (.code yX12_lived cX12_lived 3 (some .int) :: jT) { frames := 0, cells := 0, slots := 0, locals := 0 } (va_Pc [.ref (ad 41)] (jInv (jMain D ad cy) S)) (jQ (jMain D ad cy) (some (.int z.1), z.2)) 0 0 (yA (jMain D ad cy)) :=
  jMet hO (by decide +kernel) rfl (Nat.le_of_ble_eq_true rfl) (fun X _ C Q => p_X12_lived_e C Q  S hz)
theorem k_X12_91_X12_lived {X : jX} {D : va_G} {ad : Nat → Nat} {cy : Nat → ClassId} {cc : ByteArray} {ret : Option FieldType} {nL fr lo pc : Nat} {lv : List (Nat × Value)} {st : List Value} {S : jS} {β : Type} {z : β} (C : jC X (jMain D ad cy) RX12 cc ret nL fr lo)  {E : Int32 → jS → Option β} (d : decode cc pc = .ok (.invokevirtual 91, 3)) (hE : jcl (f_X12_lived  S) E = some z) (hfr : 1 ≤ fr) (hlo : 22 ≤ lo) (hst : (st.map fun v => v.category).sum ≤ 8) (K : ∀ (v : Int32) (S1 : jS), E v S1 = some z → jJ X (jMain D ad cy) (pc + 3) lv (.int v :: st) S1) : jJ X (jMain D ad cy) pc lv (.ref (ad 41) :: st) S := by
  obtain ⟨v, h1, h2⟩ := jcl_some hE
  exact j_callV (k := 41) (ci := 12) (T := TX12) (N := 25) (n := 0) (As := []) C (c_X12_lived C.2.2.2.2.2.2.1  S h1) tw_965 tw_967 tw_33 tw_81 tw_968 (by decide +kernel) rfl (by decide : 41 < 56) rfl rfl hfr hlo hst rfl d (K _ _ h2)
set_option maxRecDepth 100000 in
theorem p_X12_bits_4 {X : jX} {D : va_G} {ad : Nat → Nat} {cy : Nat → ClassId} (C : jC X (jMain D ad cy) RX12 cX12_bits (some .int) 3 0 0) {z : Int32 × jS} (Q : jRet X (jMain D ad cy) (some (.int z.1), z.2)) {g : Int32 → Int32 → jS → Option (Int32 × jS)} (hg : ∀ (x1 : Int32) (x2 : Int32) (S : jS), g x1 x2 S = some z → jJ X (jMain D ad cy) 4 [(1, .int x1), (2, .int x2)] [] S) {k21 : Int32 → jS → Option (Int32 × jS)} (hk21 : ∀ (x1 : Int32) (S : jS), k21 x1 S = some z → jJ X (jMain D ad cy) 21 [(1, .int x1)] [] S) (x1 : Int32) (x2 : Int32) (S : jS) (hE : f_X12_bits_4  g k21 x1 x2 S = some z) : jJ X (jMain D ad cy) 4 [(1, .int x1), (2, .int x2)] [] S := by
  unfold f_X12_bits_4 at hE
  refine j_iload_n C dX12_bits_4 1 rfl ?_
  refine j_if_le (tgt := 21) C dX12_bits_5 rfl hE (fun hE => ?_) (fun hE => ?_)
  · refine j_sub [0] rfl ?_
    exact hk21 x1 S hE
  · refine j_iload_n C dX12_bits_8 0 rfl ?_
    refine j_iload_n C dX12_bits_9 1 rfl ?_
    refine j_iconst (v := 1) C dX12_bits_10 jc_ic_1 ?_
    refine j_iand C dX12_bits_11 ?_
    refine j_iadd C dX12_bits_12 ?_
    refine j_istore_n (i := 1) (lv' := [(1, .int (x1 + (x2 &&& 1))), (2, .int x2)]) C dX12_bits_13 rfl (by decide) rfl ?_
    refine j_iload_n C dX12_bits_14 1 rfl ?_
    refine j_iconst (v := 1) C dX12_bits_15 jc_ic_1 ?_
    refine j_ishr C dX12_bits_16 ?_
    refine j_istore_n (i := 2) (lv' := [(2, .int (x2 >>> (1 &&& 31))), (1, .int (x1 + (x2 &&& 1)))]) C dX12_bits_17 rfl (by decide) rfl ?_
    refine j_goto (tgt := 4) C dX12_bits_18 rfl ?_
    refine j_sub [1, 0] rfl ?_
    exact hg (x1 + (x2 &&& 1)) (x2 >>> (1 &&& 31)) S hE
theorem q_X12_bits_4 {X : jX} {D : va_G} {ad : Nat → Nat} {cy : Nat → ClassId} (C : jC X (jMain D ad cy) RX12 cX12_bits (some .int) 3 0 0) {z : Int32 × jS} (Q : jRet X (jMain D ad cy) (some (.int z.1), z.2)) {k21 : Int32 → jS → Option (Int32 × jS)} (hk21 : ∀ (x1 : Int32) (S : jS), k21 x1 S = some z → jJ X (jMain D ad cy) 21 [(1, .int x1)] [] S) (x1 : Int32) (x2 : Int32) (S : jS) (hE : lp_X12_bits_4  k21 x1 x2 S = some z) : jJ X (jMain D ad cy) 4 [(1, .int x1), (2, .int x2)] [] S :=
  jloop_P (α := Int32 × Int32 × jS) (B := (fun g q => f_X12_bits_4  (fun x1 x2 S => g (x1, x2, S)) k21 q.1 q.2.1 q.2.2)) (P := fun q => jJ X (jMain D ad cy) 4 [(1, .int q.1), (2, .int q.2.1)] [] q.2.2) (fun g q hg h => p_X12_bits_4 C Q (g := fun x1 x2 S => g (x1, x2, S)) (fun x1 x2 S h => hg (x1, x2, S) h) hk21 q.1 q.2.1 q.2.2 h) jN (x1, x2, S) hE
set_option maxRecDepth 100000 in
theorem p_X12_bits_21 {X : jX} {D : va_G} {ad : Nat → Nat} {cy : Nat → ClassId} (C : jC X (jMain D ad cy) RX12 cX12_bits (some .int) 3 0 0) {z : Int32 × jS} (Q : jRet X (jMain D ad cy) (some (.int z.1), z.2))  (x1 : Int32) (S : jS) (hE : f_X12_bits_21   x1 S = some z) : jJ X (jMain D ad cy) 21 [(1, .int x1)] [] S := by
  unfold f_X12_bits_21 at hE
  refine j_iload_n C dX12_bits_21 0 rfl ?_
  exact j_iret C Q dX12_bits_22 hE
set_option maxRecDepth 100000 in
theorem p_X12_bits_e {X : jX} {D : va_G} {ad : Nat → Nat} {cy : Nat → ClassId} (C : jC X (jMain D ad cy) RX12 cX12_bits (some .int) 3 0 0) {z : Int32 × jS} (Q : jRet X (jMain D ad cy) (some (.int z.1), z.2))  (x0 : Int32) (S : jS) (hE : f_X12_bits_e   x0 S = some z) : jJ X (jMain D ad cy) 0 [(0, .int x0)] [] S := by
  unfold f_X12_bits_e at hE
  refine j_iconst (v := 0) C dX12_bits_0 jc_ic_0 ?_
  refine j_istore_n (i := 1) (lv' := [(1, .int 0), (0, .int x0)]) C dX12_bits_1 rfl (by decide) rfl ?_
  refine j_iload_n C dX12_bits_2 1 rfl ?_
  refine j_istore_n (i := 2) (lv' := [(2, .int x0), (1, .int 0), (0, .int x0)]) C dX12_bits_3 rfl (by decide) rfl ?_
  refine j_sub [1, 0] rfl ?_
  exact q_X12_bits_4 C Q (p_X12_bits_21 C Q ) 0 x0 S hE
theorem c_X12_bits {l : Launch} {D : va_G} {ad : Nat → Nat} {cy : Nat → ClassId} (hO : jOk (jMain D ad cy)) (x0 : Int32) (S : jS) {z : Int32 × jS} (hz : f_X12_bits x0 S = some z) : Met l yX12_bits (.code yX12_bits cX12_bits 3 (some .int) :: jT) { frames := 0, cells := 0, slots := 0, locals := 0 } (va_Pc [.int x0] (jInv (jMain D ad cy) S)) (jQ (jMain D ad cy) (some (.int z.1), z.2)) 0 0 (yA (jMain D ad cy)) :=
  jMet hO (by decide +kernel) rfl (Nat.le_of_ble_eq_true rfl) (fun X _ C Q => p_X12_bits_e C Q x0 S hz)
theorem k_X12_95_X12_bits {X : jX} {D : va_G} {ad : Nat → Nat} {cy : Nat → ClassId} {cc : ByteArray} {ret : Option FieldType} {nL fr lo pc : Nat} {lv : List (Nat × Value)} {st : List Value} {S : jS} {β : Type} {z : β} (C : jC X (jMain D ad cy) RX12 cc ret nL fr lo) {a0 : Int32} {E : Int32 → jS → Option β} (d : decode cc pc = .ok (.invokestatic 95, 3)) (hE : jcl (f_X12_bits a0 S) E = some z) (hfr : 1 ≤ fr) (hlo : 22 ≤ lo) (hst : (st.map fun v => v.category).sum ≤ 8) (K : ∀ (v : Int32) (S1 : jS), E v S1 = some z → jJ X (jMain D ad cy) (pc + 3) lv (.int v :: st) S1) : jJ X (jMain D ad cy) pc lv (.int a0 :: st) S := by
  obtain ⟨v, h1, h2⟩ := jcl_some hE
  exact j_callS (n := 1) (As := [.int a0]) C (c_X12_bits C.2.2.2.2.2.2.1 a0 S h1) tw_969 tw_970 tw_81 tw_971 (by decide +kernel) rfl hfr hlo hst rfl d (K _ _ h2)
set_option maxRecDepth 100000 in
theorem p_X12_begin_r42_2 {X : jX} {D : va_G} {ad : Nat → Nat} {cy : Nat → ClassId} (C : jC X (jMain D ad cy) RX12 cX12_begin (none) 4 0 0) {z : jS} (Q : jRet X (jMain D ad cy) (none, z)) {g : Int32 → Int32 → Int32 → jS → Option (jS)} (hg : ∀ (x1 : Int32) (x2 : Int32) (x3 : Int32) (S : jS), g x1 x2 x3 S = some z → jJ X (jMain D ad cy) 2 [(0, .ref (ad 42)), (1, .int x1), (2, .int x2), (3, .int x3)] [] S) {k18 : Int32 → Int32 → jS → Option (jS)} (hk18 : ∀ (x1 : Int32) (x2 : Int32) (S : jS), k18 x1 x2 S = some z → jJ X (jMain D ad cy) 18 [(0, .ref (ad 42)), (1, .int x1), (2, .int x2)] [] S) (x1 : Int32) (x2 : Int32) (x3 : Int32) (S : jS) (hE : f_X12_begin_r42_2  g k18 x1 x2 x3 S = some z) : jJ X (jMain D ad cy) 2 [(0, .ref (ad 42)), (1, .int x1), (2, .int x2), (3, .int x3)] [] S := by
  unfold f_X12_begin_r42_2 at hE
  refine j_iload_n C dX12_begin_2 3 rfl ?_
  refine j_bipush (v := 69) C dX12_begin_3 jc_bp_69 ?_
  refine j_icmp_ge (tgt := 18) C dX12_begin_5 rfl hE (fun hE => ?_) (fun hE => ?_)
  · refine j_sub [0, 1, 2] rfl ?_
    exact hk18 x1 x2 S hE
  · refine j_aload_n C dX12_begin_8 0 rfl ?_
    refine j_iload_n C dX12_begin_9 3 rfl ?_
    refine j_iconst (v := 0) C dX12_begin_10 jc_ic_0 ?_
    refine s_42 C dX12_begin_11 hE (fun S1 hE => ?_)
    refine j_iinc (v := (x3 + 1)) (lv' := [(3, .int (x3 + 1)), (0, .ref (ad 42)), (1, .int x1), (2, .int x2)]) C dX12_begin_12 3 rfl (congrArg (fun w => x3 + w) jc_ic_1) (by decide) rfl ?_
    refine j_goto (tgt := 2) C dX12_begin_15 rfl ?_
    refine j_sub [1, 2, 3, 0] rfl ?_
    exact hg x1 x2 (x3 + 1) S1 hE
theorem q_X12_begin_r42_2 {X : jX} {D : va_G} {ad : Nat → Nat} {cy : Nat → ClassId} (C : jC X (jMain D ad cy) RX12 cX12_begin (none) 4 0 0) {z : jS} (Q : jRet X (jMain D ad cy) (none, z)) {k18 : Int32 → Int32 → jS → Option (jS)} (hk18 : ∀ (x1 : Int32) (x2 : Int32) (S : jS), k18 x1 x2 S = some z → jJ X (jMain D ad cy) 18 [(0, .ref (ad 42)), (1, .int x1), (2, .int x2)] [] S) (x1 : Int32) (x2 : Int32) (x3 : Int32) (S : jS) (hE : lp_X12_begin_r42_2  k18 x1 x2 x3 S = some z) : jJ X (jMain D ad cy) 2 [(0, .ref (ad 42)), (1, .int x1), (2, .int x2), (3, .int x3)] [] S :=
  jloop_P (α := Int32 × Int32 × Int32 × jS) (B := (fun g q => f_X12_begin_r42_2  (fun x1 x2 x3 S => g (x1, x2, x3, S)) k18 q.1 q.2.1 q.2.2.1 q.2.2.2)) (P := fun q => jJ X (jMain D ad cy) 2 [(0, .ref (ad 42)), (1, .int q.1), (2, .int q.2.1), (3, .int q.2.2.1)] [] q.2.2.2) (fun g q hg h => p_X12_begin_r42_2 C Q (g := fun x1 x2 x3 S => g (x1, x2, x3, S)) (fun x1 x2 x3 S h => hg (x1, x2, x3, S) h) hk18 q.1 q.2.1 q.2.2.1 q.2.2.2 h) jN (x1, x2, x3, S) hE
set_option maxRecDepth 100000 in
theorem p_X12_begin_r42_18 {X : jX} {D : va_G} {ad : Nat → Nat} {cy : Nat → ClassId} (C : jC X (jMain D ad cy) RX12 cX12_begin (none) 4 0 0) {z : jS} (Q : jRet X (jMain D ad cy) (none, z))  (x1 : Int32) (x2 : Int32) (S : jS) (hE : f_X12_begin_r42_18   x1 x2 S = some z) : jJ X (jMain D ad cy) 18 [(0, .ref (ad 42)), (1, .int x1), (2, .int x2)] [] S := by
  unfold f_X12_begin_r42_18 at hE
  refine j_aload_n C dX12_begin_18 0 rfl ?_
  refine j_bipush (v := 8) C dX12_begin_19 jc_bp_8 ?_
  refine j_iload_n C dX12_begin_21 1 rfl ?_
  refine s_42 C dX12_begin_22 hE (fun S1 hE => ?_)
  refine j_aload_n C dX12_begin_23 0 rfl ?_
  refine j_bipush (v := 9) C dX12_begin_24 jc_bp_9 ?_
  refine j_iload_n C dX12_begin_26 2 rfl ?_
  refine s_42 C dX12_begin_27 hE (fun S2 hE => ?_)
  exact j_vret C Q dX12_begin_28 hE
set_option maxRecDepth 100000 in
theorem p_X12_begin_r42_e {X : jX} {D : va_G} {ad : Nat → Nat} {cy : Nat → ClassId} (C : jC X (jMain D ad cy) RX12 cX12_begin (none) 4 0 0) {z : jS} (Q : jRet X (jMain D ad cy) (none, z))  (x1 : Int32) (x2 : Int32) (S : jS) (hE : f_X12_begin_r42_e   x1 x2 S = some z) : jJ X (jMain D ad cy) 0 [(0, .ref (ad 42)), (1, .int x1), (2, .int x2)] [] S := by
  unfold f_X12_begin_r42_e at hE
  refine j_iconst (v := 0) C dX12_begin_0 jc_ic_0 ?_
  refine j_istore_n (i := 3) (lv' := [(3, .int 0), (0, .ref (ad 42)), (1, .int x1), (2, .int x2)]) C dX12_begin_1 rfl (by decide) rfl ?_
  refine j_sub [1, 2, 3, 0] rfl ?_
  exact q_X12_begin_r42_2 C Q (p_X12_begin_r42_18 C Q ) x1 x2 0 S hE
theorem c_X12_begin_r42 {l : Launch} {D : va_G} {ad : Nat → Nat} {cy : Nat → ClassId} (hO : jOk (jMain D ad cy)) (x1 : Int32) (x2 : Int32) (S : jS) {z : jS} (hz : f_X12_begin_r42 x1 x2 S = some z) : Met l yX12_begin (.code yX12_begin cX12_begin 4 (none) :: jT) { frames := 0, cells := 0, slots := 0, locals := 0 } (va_Pc [.ref (ad 42), .int x1, .int x2] (jInv (jMain D ad cy) S)) (jQ (jMain D ad cy) (none, z)) 0 0 (yA (jMain D ad cy)) :=
  jMet hO (by decide +kernel) rfl (Nat.le_of_ble_eq_true rfl) (fun X _ C Q => p_X12_begin_r42_e C Q x1 x2 S hz)
theorem k_X12_98_X12_begin_r42 {X : jX} {D : va_G} {ad : Nat → Nat} {cy : Nat → ClassId} {cc : ByteArray} {ret : Option FieldType} {nL fr lo pc : Nat} {lv : List (Nat × Value)} {st : List Value} {S : jS} {β : Type} {z : β} (C : jC X (jMain D ad cy) RX12 cc ret nL fr lo) {a1 : Int32} {a2 : Int32} {E : jS → Option β} (d : decode cc pc = .ok (.invokestatic 98, 3)) (hE : jcv (f_X12_begin_r42 a1 a2 S) E = some z) (hfr : 1 ≤ fr) (hlo : 23 ≤ lo) (hst : (st.map fun v => v.category).sum ≤ 8) (K : ∀ S1, E S1 = some z → jJ X (jMain D ad cy) (pc + 3) lv st S1) : jJ X (jMain D ad cy) pc lv (.int a2 :: .int a1 :: .ref (ad 42) :: st) S := by
  obtain ⟨v, h1, h2⟩ := jcv_some hE
  exact j_callS (n := 3) (As := [.ref (ad 42), .int a1, .int a2]) C (c_X12_begin_r42 C.2.2.2.2.2.2.1 a1 a2 S h1) tw_972 tw_973 tw_81 tw_974 (by decide +kernel) rfl hfr hlo hst rfl d (K _ h2)
set_option maxRecDepth 100000 in
theorem p_X12_bad_e {X : jX} {D : va_G} {ad : Nat → Nat} {cy : Nat → ClassId} (C : jC X (jMain D ad cy) RX12 cX12_bad (some .int) 2 0 0) {z : Int32 × jS} (Q : jRet X (jMain D ad cy) (some (.int z.1), z.2))  (x1 : Int32) (S : jS) (hE : f_X12_bad_e   x1 S = some z) : jJ X (jMain D ad cy) 0 [(0, .ref (ad 41)), (1, .int x1)] [] S := by
  unfold f_X12_bad_e at hE
  refine j_aload_n C dX12_bad_0 0 rfl ?_
  refine g_X12_20_41 C dX12_bad_1 ?_
  refine j_iconst (v := 0) C dX12_bad_4 jc_ic_0 ?_
  refine j_dup2 C dX12_bad_5 rfl rfl ?_
  refine l_45 C dX12_bad_6 hE (fun v1 hE => ?_)
  refine j_iconst (v := 1) C dX12_bad_7 jc_ic_1 ?_
  refine j_iadd C dX12_bad_8 ?_
  refine s_45 C dX12_bad_9 hE (fun S2 hE => ?_)
  refine j_iload_n C dX12_bad_10 1 rfl ?_
  exact j_iret C Q dX12_bad_11 hE
theorem c_X12_bad {l : Launch} {D : va_G} {ad : Nat → Nat} {cy : Nat → ClassId} (hO : jOk (jMain D ad cy)) (x1 : Int32) (S : jS) {z : Int32 × jS} (hz : f_X12_bad x1 S = some z) : Met l yX12_bad (.code yX12_bad cX12_bad 2 (some .int) :: jT) { frames := 0, cells := 0, slots := 0, locals := 0 } (va_Pc [.ref (ad 41), .int x1] (jInv (jMain D ad cy) S)) (jQ (jMain D ad cy) (some (.int z.1), z.2)) 0 0 (yA (jMain D ad cy)) :=
  jMet hO (by decide +kernel) rfl (Nat.le_of_ble_eq_true rfl) (fun X _ C Q => p_X12_bad_e C Q x1 S hz)
theorem k_X12_87_X12_bad {X : jX} {D : va_G} {ad : Nat → Nat} {cy : Nat → ClassId} {cc : ByteArray} {ret : Option FieldType} {nL fr lo pc : Nat} {lv : List (Nat × Value)} {st : List Value} {S : jS} {β : Type} {z : β} (C : jC X (jMain D ad cy) RX12 cc ret nL fr lo) {a0 : Int32} {E : Int32 → jS → Option β} (d : decode cc pc = .ok (.invokevirtual 87, 3)) (hE : jcl (f_X12_bad a0 S) E = some z) (hfr : 1 ≤ fr) (hlo : 21 ≤ lo) (hst : (st.map fun v => v.category).sum ≤ 8) (K : ∀ (v : Int32) (S1 : jS), E v S1 = some z → jJ X (jMain D ad cy) (pc + 3) lv (.int v :: st) S1) : jJ X (jMain D ad cy) pc lv (.int a0 :: .ref (ad 41) :: st) S := by
  obtain ⟨v, h1, h2⟩ := jcl_some hE
  exact j_callV (k := 41) (ci := 12) (T := TX12) (N := 25) (n := 1) (As := [.int a0]) C (c_X12_bad C.2.2.2.2.2.2.1 a0 S h1) tw_961 tw_963 tw_32 tw_81 tw_964 (by decide +kernel) rfl (by decide : 41 < 56) rfl rfl hfr hlo hst rfl d (K _ _ h2)
set_option maxRecDepth 100000 in
theorem p_X12_street_e {X : jX} {D : va_G} {ad : Nat → Nat} {cy : Nat → ClassId} (C : jC X (jMain D ad cy) RX12 cX12_street (some .int) 4 2 46) {z : Int32 × jS} (Q : jRet X (jMain D ad cy) (some (.int z.1), z.2))  (x1 : Int32) (x2 : Int32) (S : jS) (hE : f_X12_street_e   x1 x2 S = some z) : jJ X (jMain D ad cy) 0 [(0, .ref (ad 41)), (1, .int x1), (2, .int x2)] [] S := by
  unfold f_X12_street_e at hE
  refine j_iload_n C dX12_street_0 1 rfl ?_
  refine j_iload_n C dX12_street_1 2 rfl ?_
  refine k_X12_84_X12_isLaw C dX12_street_2 hE (Nat.le_of_ble_eq_true rfl) (Nat.le_of_ble_eq_true rfl) (Nat.le_of_ble_eq_true rfl) (fun v2 S1 hE => ?_)
  refine j_if_ne (tgt := 15) C dX12_street_5 rfl hE (fun hE => ?_) (fun hE => ?_)
  · refine j_aload_n C dX12_street_15 0 rfl ?_
    refine k_X12_91_X12_lived C dX12_street_16 hE (Nat.le_of_ble_eq_true rfl) (Nat.le_of_ble_eq_true rfl) (Nat.le_of_ble_eq_true rfl) (fun v4 S3 hE => ?_)
    refine k_X12_95_X12_bits C dX12_street_19 hE (Nat.le_of_ble_eq_true rfl) (Nat.le_of_ble_eq_true rfl) (Nat.le_of_ble_eq_true rfl) (fun v6 S5 hE => ?_)
    refine j_istore_n (i := 3) (lv' := [(3, .int v6), (0, .ref (ad 41)), (1, .int x1), (2, .int x2)]) C dX12_street_22 rfl (by decide) rfl ?_
    refine j_aload_n C dX12_street_23 1 rfl ?_
    refine g_X12_7_41 C dX12_street_24 ?_
    refine j_iload_n C dX12_street_27 2 rfl ?_
    refine j_iload_n C dX12_street_28 3 rfl ?_
    refine k_X12_98_X12_begin_r42 C dX12_street_29 hE (Nat.le_of_ble_eq_true rfl) (Nat.le_of_ble_eq_true rfl) (Nat.le_of_ble_eq_true rfl) (fun S7 hE => ?_)
    refine j_iload_n C dX12_street_32 0 rfl ?_
    exact j_iret C Q dX12_street_33 hE
  · refine j_aload_n C dX12_street_8 0 rfl ?_
    refine j_bipush (v := (-2)) C dX12_street_9 jc_bp_m2 ?_
    refine k_X12_87_X12_bad C dX12_street_11 hE (Nat.le_of_ble_eq_true rfl) (Nat.le_of_ble_eq_true rfl) (Nat.le_of_ble_eq_true rfl) (fun v9 S8 hE => ?_)
    exact j_iret C Q dX12_street_14 hE
theorem c_X12_street {l : Launch} {D : va_G} {ad : Nat → Nat} {cy : Nat → ClassId} (hO : jOk (jMain D ad cy)) (x1 : Int32) (x2 : Int32) (S : jS) {z : Int32 × jS} (hz : f_X12_street x1 x2 S = some z) : Met l yX12_street (.code yX12_street cX12_street 4 (some .int) :: jT) { frames := 2, cells := 0, slots := 0, locals := 46 } (va_Pc [.ref (ad 41), .int x1, .int x2] (jInv (jMain D ad cy) S)) (jQ (jMain D ad cy) (some (.int z.1), z.2)) 0 0 (yA (jMain D ad cy)) :=
  jMet hO (by decide +kernel) rfl (Nat.le_of_ble_eq_true rfl) (fun X _ C Q => p_X12_street_e C Q x1 x2 S hz)
set_option maxRecDepth 100000 in
theorem p_X11_isLaw_25 {X : jX} {D : va_G} {ad : Nat → Nat} {cy : Nat → ClassId} (C : jC X (jMain D ad cy) RX11 cX11_isLaw (some .boolean) 2 0 0) {z : Int32 × jS} (Q : jRet X (jMain D ad cy) (some (.int z.1), z.2))  (a0 : Int32) (S : jS) (hE : f_X11_isLaw_25   a0 S = some z) : jJ X (jMain D ad cy) 25 [] [.int a0] S := by
  unfold f_X11_isLaw_25 at hE
  exact j_zret C Q dX11_isLaw_25 hE
set_option maxRecDepth 100000 in
theorem p_X11_isLaw_24 {X : jX} {D : va_G} {ad : Nat → Nat} {cy : Nat → ClassId} (C : jC X (jMain D ad cy) RX11 cX11_isLaw (some .boolean) 2 0 0) {z : Int32 × jS} (Q : jRet X (jMain D ad cy) (some (.int z.1), z.2))   (S : jS) (hE : f_X11_isLaw_24    S = some z) : jJ X (jMain D ad cy) 24 [] [] S := by
  unfold f_X11_isLaw_24 at hE
  refine j_iconst (v := 0) C dX11_isLaw_24 jc_ic_0 ?_
  exact p_X11_isLaw_25 C Q  0 S hE
set_option maxRecDepth 100000 in
theorem p_X11_isLaw_e {X : jX} {D : va_G} {ad : Nat → Nat} {cy : Nat → ClassId} (C : jC X (jMain D ad cy) RX11 cX11_isLaw (some .boolean) 2 0 0) {z : Int32 × jS} (Q : jRet X (jMain D ad cy) (some (.int z.1), z.2))  (x0 : Int32) (x1 : Int32) (S : jS) (hE : f_X11_isLaw_e   x0 x1 S = some z) : jJ X (jMain D ad cy) 0 [(0, .int x0), (1, .int x1)] [] S := by
  unfold f_X11_isLaw_e at hE
  refine j_iload_n C dX11_isLaw_0 0 rfl ?_
  refine j_if_lt (tgt := 24) C dX11_isLaw_1 rfl hE (fun hE => ?_) (fun hE => ?_)
  · refine j_sub [] rfl ?_
    exact p_X11_isLaw_24 C Q   S hE
  · refine j_iload_n C dX11_isLaw_4 0 rfl ?_
    refine j_bipush (v := 6) C dX11_isLaw_5 jc_bp_6 ?_
    refine j_icmp_ge (tgt := 24) C dX11_isLaw_7 rfl hE (fun hE => ?_) (fun hE => ?_)
    · refine j_sub [] rfl ?_
      exact p_X11_isLaw_24 C Q   S hE
    · refine j_iload_n C dX11_isLaw_10 1 rfl ?_
      refine j_if_lt (tgt := 24) C dX11_isLaw_11 rfl hE (fun hE => ?_) (fun hE => ?_)
      · refine j_sub [] rfl ?_
        exact p_X11_isLaw_24 C Q   S hE
      · refine j_iload_n C dX11_isLaw_14 1 rfl ?_
        refine j_bipush (v := 9) C dX11_isLaw_15 jc_bp_9 ?_
        refine j_icmp_gt (tgt := 24) C dX11_isLaw_17 rfl hE (fun hE => ?_) (fun hE => ?_)
        · refine j_sub [] rfl ?_
          exact p_X11_isLaw_24 C Q   S hE
        · refine j_iconst (v := 1) C dX11_isLaw_20 jc_ic_1 ?_
          refine j_goto (tgt := 25) C dX11_isLaw_21 rfl ?_
          refine j_sub [] rfl ?_
          exact p_X11_isLaw_25 C Q  1 S hE
theorem c_X11_isLaw {l : Launch} {D : va_G} {ad : Nat → Nat} {cy : Nat → ClassId} (hO : jOk (jMain D ad cy)) (x0 : Int32) (x1 : Int32) (S : jS) {z : Int32 × jS} (hz : f_X11_isLaw x0 x1 S = some z) : Met l yX11_isLaw (.code yX11_isLaw cX11_isLaw 2 (some .boolean) :: jT) { frames := 0, cells := 0, slots := 0, locals := 0 } (va_Pc [.int x0, .int x1] (jInv (jMain D ad cy) S)) (jQ (jMain D ad cy) (some (.int z.1), z.2)) 0 0 (yA (jMain D ad cy)) :=
  jMet hO (by decide +kernel) rfl (Nat.le_of_ble_eq_true rfl) (fun X _ C Q => p_X11_isLaw_e C Q x0 x1 S hz)
theorem k_X11_70_X11_isLaw {X : jX} {D : va_G} {ad : Nat → Nat} {cy : Nat → ClassId} {cc : ByteArray} {ret : Option FieldType} {nL fr lo pc : Nat} {lv : List (Nat × Value)} {st : List Value} {S : jS} {β : Type} {z : β} (C : jC X (jMain D ad cy) RX11 cc ret nL fr lo) {a0 : Int32} {a1 : Int32} {E : Int32 → jS → Option β} (d : decode cc pc = .ok (.invokestatic 70, 3)) (hE : jcl (f_X11_isLaw a0 a1 S) E = some z) (hfr : 1 ≤ fr) (hlo : 21 ≤ lo) (hst : (st.map fun v => v.category).sum ≤ 8) (K : ∀ (v : Int32) (S1 : jS), E v S1 = some z → jJ X (jMain D ad cy) (pc + 3) lv (.int v :: st) S1) : jJ X (jMain D ad cy) pc lv (.int a1 :: .int a0 :: st) S := by
  obtain ⟨v, h1, h2⟩ := jcl_some hE
  exact j_callS (n := 2) (As := [.int a0, .int a1]) C (c_X11_isLaw C.2.2.2.2.2.2.1 a0 a1 S h1) tw_342 tw_343 tw_69 tw_344 (by decide +kernel) rfl hfr hlo hst rfl d (K _ _ h2)
set_option maxRecDepth 100000 in
theorem p_X10_living_22 {X : jX} {D : va_G} {ad : Nat → Nat} {cy : Nat → ClassId} (C : jC X (jMain D ad cy) RX10 cX10_living (some .int) 3 0 0) {z : Int32 × jS} (Q : jRet X (jMain D ad cy) (some (.int z.1), z.2)) {g : Int32 → Int32 → jS → Option (Int32 × jS)} (hg : ∀ (x1 : Int32) (x2 : Int32) (S : jS), g x1 x2 S = some z → jJ X (jMain D ad cy) 4 [(0, .ref (ad 21)), (1, .int x1), (2, .int x2)] [] S) {k28 : Int32 → jS → Option (Int32 × jS)} (hk28 : ∀ (x1 : Int32) (S : jS), k28 x1 S = some z → jJ X (jMain D ad cy) 28 [(1, .int x1)] [] S) (x1 : Int32) (x2 : Int32) (S : jS) (hE : f_X10_living_22  g k28 x1 x2 S = some z) : jJ X (jMain D ad cy) 22 [(0, .ref (ad 21)), (1, .int x1), (2, .int x2)] [] S := by
  unfold f_X10_living_22 at hE
  refine j_iinc (v := (x2 + 1)) (lv' := [(2, .int (x2 + 1)), (0, .ref (ad 21)), (1, .int x1)]) C dX10_living_22 2 rfl (congrArg (fun w => x2 + w) jc_ic_1) (by decide) rfl ?_
  refine j_goto (tgt := 4) C dX10_living_25 rfl ?_
  refine j_sub [1, 2, 0] rfl ?_
  exact hg x1 (x2 + 1) S hE
set_option maxRecDepth 100000 in
theorem p_X10_living_4 {X : jX} {D : va_G} {ad : Nat → Nat} {cy : Nat → ClassId} (C : jC X (jMain D ad cy) RX10 cX10_living (some .int) 3 0 0) {z : Int32 × jS} (Q : jRet X (jMain D ad cy) (some (.int z.1), z.2)) {g : Int32 → Int32 → jS → Option (Int32 × jS)} (hg : ∀ (x1 : Int32) (x2 : Int32) (S : jS), g x1 x2 S = some z → jJ X (jMain D ad cy) 4 [(0, .ref (ad 21)), (1, .int x1), (2, .int x2)] [] S) {k28 : Int32 → jS → Option (Int32 × jS)} (hk28 : ∀ (x1 : Int32) (S : jS), k28 x1 S = some z → jJ X (jMain D ad cy) 28 [(1, .int x1)] [] S) (x1 : Int32) (x2 : Int32) (S : jS) (hE : f_X10_living_4  g k28 x1 x2 S = some z) : jJ X (jMain D ad cy) 4 [(0, .ref (ad 21)), (1, .int x1), (2, .int x2)] [] S := by
  unfold f_X10_living_4 at hE
  refine j_iload_n C dX10_living_4 2 rfl ?_
  refine j_bipush (v := 8) C dX10_living_5 jc_bp_8 ?_
  refine j_icmp_ge (tgt := 28) C dX10_living_7 rfl hE (fun hE => ?_) (fun hE => ?_)
  · refine j_sub [1] rfl ?_
    exact hk28 x1 S hE
  · refine j_aload_n C dX10_living_10 0 rfl ?_
    refine g_X10_9_21 C dX10_living_11 ?_
    refine j_iload_n C dX10_living_14 2 rfl ?_
    refine l_22 C dX10_living_15 hE (fun v1 hE => ?_)
    refine j_if_le (tgt := 22) C dX10_living_16 rfl hE (fun hE => ?_) (fun hE => ?_)
    · exact p_X10_living_22 C Q hg hk28 x1 x2 S hE
    · refine j_iinc (v := (x1 + 1)) (lv' := [(1, .int (x1 + 1)), (0, .ref (ad 21)), (2, .int x2)]) C dX10_living_19 1 rfl (congrArg (fun w => x1 + w) jc_ic_1) (by decide) rfl ?_
      refine j_sub [1, 0, 2] rfl ?_
      exact p_X10_living_22 C Q hg hk28 (x1 + 1) x2 S hE
theorem q_X10_living_4 {X : jX} {D : va_G} {ad : Nat → Nat} {cy : Nat → ClassId} (C : jC X (jMain D ad cy) RX10 cX10_living (some .int) 3 0 0) {z : Int32 × jS} (Q : jRet X (jMain D ad cy) (some (.int z.1), z.2)) {k28 : Int32 → jS → Option (Int32 × jS)} (hk28 : ∀ (x1 : Int32) (S : jS), k28 x1 S = some z → jJ X (jMain D ad cy) 28 [(1, .int x1)] [] S) (x1 : Int32) (x2 : Int32) (S : jS) (hE : lp_X10_living_4  k28 x1 x2 S = some z) : jJ X (jMain D ad cy) 4 [(0, .ref (ad 21)), (1, .int x1), (2, .int x2)] [] S :=
  jloop_P (α := Int32 × Int32 × jS) (B := (fun g q => f_X10_living_4  (fun x1 x2 S => g (x1, x2, S)) k28 q.1 q.2.1 q.2.2)) (P := fun q => jJ X (jMain D ad cy) 4 [(0, .ref (ad 21)), (1, .int q.1), (2, .int q.2.1)] [] q.2.2) (fun g q hg h => p_X10_living_4 C Q (g := fun x1 x2 S => g (x1, x2, S)) (fun x1 x2 S h => hg (x1, x2, S) h) hk28 q.1 q.2.1 q.2.2 h) jN (x1, x2, S) hE
set_option maxRecDepth 100000 in
theorem p_X10_living_28 {X : jX} {D : va_G} {ad : Nat → Nat} {cy : Nat → ClassId} (C : jC X (jMain D ad cy) RX10 cX10_living (some .int) 3 0 0) {z : Int32 × jS} (Q : jRet X (jMain D ad cy) (some (.int z.1), z.2))  (x1 : Int32) (S : jS) (hE : f_X10_living_28   x1 S = some z) : jJ X (jMain D ad cy) 28 [(1, .int x1)] [] S := by
  unfold f_X10_living_28 at hE
  refine j_iload_n C dX10_living_28 0 rfl ?_
  exact j_iret C Q dX10_living_29 hE
set_option maxRecDepth 100000 in
theorem p_X10_living_e {X : jX} {D : va_G} {ad : Nat → Nat} {cy : Nat → ClassId} (C : jC X (jMain D ad cy) RX10 cX10_living (some .int) 3 0 0) {z : Int32 × jS} (Q : jRet X (jMain D ad cy) (some (.int z.1), z.2))   (S : jS) (hE : f_X10_living_e    S = some z) : jJ X (jMain D ad cy) 0 [(0, .ref (ad 21))] [] S := by
  unfold f_X10_living_e at hE
  refine j_iconst (v := 0) C dX10_living_0 jc_ic_0 ?_
  refine j_istore_n (i := 1) (lv' := [(1, .int 0), (0, .ref (ad 21))]) C dX10_living_1 rfl (by decide) rfl ?_
  refine j_iconst (v := 0) C dX10_living_2 jc_ic_0 ?_
  refine j_istore_n (i := 2) (lv' := [(2, .int 0), (1, .int 0), (0, .ref (ad 21))]) C dX10_living_3 rfl (by decide) rfl ?_
  refine j_sub [2, 1, 0] rfl ?_
  exact q_X10_living_4 C Q (p_X10_living_28 C Q ) 0 0 S hE
theorem c_X10_living {l : Launch} {D : va_G} {ad : Nat → Nat} {cy : Nat → ClassId} (hO : jOk (jMain D ad cy))  (S : jS) {z : Int32 × jS} (hz : f_X10_living  S = some z) : Met l yX10_living (.code yX10_living cX10_living 3 (some .int) :: jT) { frames := 0, cells := 0, slots := 0, locals := 0 } (va_Pc [.ref (ad 21)] (jInv (jMain D ad cy) S)) (jQ (jMain D ad cy) (some (.int z.1), z.2)) 0 0 (yA (jMain D ad cy)) :=
  jMet hO (by decide +kernel) rfl (Nat.le_of_ble_eq_true rfl) (fun X _ C Q => p_X10_living_e C Q  S hz)
theorem k_X11_78_X10_living {X : jX} {D : va_G} {ad : Nat → Nat} {cy : Nat → ClassId} {cc : ByteArray} {ret : Option FieldType} {nL fr lo pc : Nat} {lv : List (Nat × Value)} {st : List Value} {S : jS} {β : Type} {z : β} (C : jC X (jMain D ad cy) RX11 cc ret nL fr lo)  {E : Int32 → jS → Option β} (d : decode cc pc = .ok (.invokevirtual 78, 3)) (hE : jcl (f_X10_living  S) E = some z) (hfr : 1 ≤ fr) (hlo : 22 ≤ lo) (hst : (st.map fun v => v.category).sum ≤ 8) (K : ∀ (v : Int32) (S1 : jS), E v S1 = some z → jJ X (jMain D ad cy) (pc + 3) lv (.int v :: st) S1) : jJ X (jMain D ad cy) pc lv (.ref (ad 21) :: st) S := by
  obtain ⟨v, h1, h2⟩ := jcl_some hE
  exact j_callV (k := 21) (ci := 10) (T := TX10) (N := 8) (n := 0) (As := []) C (c_X10_living C.2.2.2.2.2.2.1  S h1) tw_349 tw_350 tw_351 tw_80 tw_352 (by decide +kernel) rfl (by decide : 21 < 56) rfl rfl hfr hlo hst rfl d (K _ _ h2)
set_option maxRecDepth 100000 in
theorem p_X10_begin_2 {X : jX} {D : va_G} {ad : Nat → Nat} {cy : Nat → ClassId} (C : jC X (jMain D ad cy) RX10 cX10_begin (none) 3 0 0) {z : jS} (Q : jRet X (jMain D ad cy) (none, z)) {g : Int32 → Int32 → jS → Option (jS)} (hg : ∀ (x1 : Int32) (x2 : Int32) (S : jS), g x1 x2 S = some z → jJ X (jMain D ad cy) 2 [(0, .ref (ad 21)), (1, .int x1), (2, .int x2)] [] S) {k21 : Int32 → jS → Option (jS)} (hk21 : ∀ (x1 : Int32) (S : jS), k21 x1 S = some z → jJ X (jMain D ad cy) 21 [(0, .ref (ad 21)), (1, .int x1)] [] S) (x1 : Int32) (x2 : Int32) (S : jS) (hE : f_X10_begin_2  g k21 x1 x2 S = some z) : jJ X (jMain D ad cy) 2 [(0, .ref (ad 21)), (1, .int x1), (2, .int x2)] [] S := by
  unfold f_X10_begin_2 at hE
  refine j_iload_n C dX10_begin_2 2 rfl ?_
  refine j_bipush (v := 8) C dX10_begin_3 jc_bp_8 ?_
  refine j_icmp_ge (tgt := 21) C dX10_begin_5 rfl hE (fun hE => ?_) (fun hE => ?_)
  · refine j_sub [0, 1] rfl ?_
    exact hk21 x1 S hE
  · refine j_aload_n C dX10_begin_8 0 rfl ?_
    refine g_X10_9_21 C dX10_begin_9 ?_
    refine j_iload_n C dX10_begin_12 2 rfl ?_
    refine j_iconst (v := 0) C dX10_begin_13 jc_ic_0 ?_
    refine s_22 C dX10_begin_14 hE (fun S1 hE => ?_)
    refine j_iinc (v := (x2 + 1)) (lv' := [(2, .int (x2 + 1)), (0, .ref (ad 21)), (1, .int x1)]) C dX10_begin_15 2 rfl (congrArg (fun w => x2 + w) jc_ic_1) (by decide) rfl ?_
    refine j_goto (tgt := 2) C dX10_begin_18 rfl ?_
    refine j_sub [1, 2, 0] rfl ?_
    exact hg x1 (x2 + 1) S1 hE
theorem q_X10_begin_2 {X : jX} {D : va_G} {ad : Nat → Nat} {cy : Nat → ClassId} (C : jC X (jMain D ad cy) RX10 cX10_begin (none) 3 0 0) {z : jS} (Q : jRet X (jMain D ad cy) (none, z)) {k21 : Int32 → jS → Option (jS)} (hk21 : ∀ (x1 : Int32) (S : jS), k21 x1 S = some z → jJ X (jMain D ad cy) 21 [(0, .ref (ad 21)), (1, .int x1)] [] S) (x1 : Int32) (x2 : Int32) (S : jS) (hE : lp_X10_begin_2  k21 x1 x2 S = some z) : jJ X (jMain D ad cy) 2 [(0, .ref (ad 21)), (1, .int x1), (2, .int x2)] [] S :=
  jloop_P (α := Int32 × Int32 × jS) (B := (fun g q => f_X10_begin_2  (fun x1 x2 S => g (x1, x2, S)) k21 q.1 q.2.1 q.2.2)) (P := fun q => jJ X (jMain D ad cy) 2 [(0, .ref (ad 21)), (1, .int q.1), (2, .int q.2.1)] [] q.2.2) (fun g q hg h => p_X10_begin_2 C Q (g := fun x1 x2 S => g (x1, x2, S)) (fun x1 x2 S h => hg (x1, x2, S) h) hk21 q.1 q.2.1 q.2.2 h) jN (x1, x2, S) hE
set_option maxRecDepth 100000 in
theorem p_X10_begin_21 {X : jX} {D : va_G} {ad : Nat → Nat} {cy : Nat → ClassId} (C : jC X (jMain D ad cy) RX10 cX10_begin (none) 3 0 0) {z : jS} (Q : jRet X (jMain D ad cy) (none, z))  (x1 : Int32) (S : jS) (hE : f_X10_begin_21   x1 S = some z) : jJ X (jMain D ad cy) 21 [(0, .ref (ad 21)), (1, .int x1)] [] S := by
  unfold f_X10_begin_21 at hE
  refine j_aload_n C dX10_begin_21 0 rfl ?_
  refine j_iload_n C dX10_begin_22 1 rfl ?_
  refine p_X10_24_21 C dX10_begin_23 hE (fun S1 hE => ?_)
  refine j_aload_n C dX10_begin_26 0 rfl ?_
  refine j_iconst (v := 0) C dX10_begin_27 jc_ic_0 ?_
  refine p_X10_28_21 C dX10_begin_28 hE (fun S2 hE => ?_)
  refine j_aload_n C dX10_begin_31 0 rfl ?_
  refine j_iconst (v := 0) C dX10_begin_32 jc_ic_0 ?_
  refine p_X10_31_21 C dX10_begin_33 hE (fun S3 hE => ?_)
  refine j_aload_n C dX10_begin_36 0 rfl ?_
  refine j_iconst (v := 0) C dX10_begin_37 jc_ic_0 ?_
  refine p_X10_34_21 C dX10_begin_38 hE (fun S4 hE => ?_)
  exact j_vret C Q dX10_begin_41 hE
set_option maxRecDepth 100000 in
theorem p_X10_begin_e {X : jX} {D : va_G} {ad : Nat → Nat} {cy : Nat → ClassId} (C : jC X (jMain D ad cy) RX10 cX10_begin (none) 3 0 0) {z : jS} (Q : jRet X (jMain D ad cy) (none, z))  (x1 : Int32) (S : jS) (hE : f_X10_begin_e   x1 S = some z) : jJ X (jMain D ad cy) 0 [(0, .ref (ad 21)), (1, .int x1)] [] S := by
  unfold f_X10_begin_e at hE
  refine j_iconst (v := 0) C dX10_begin_0 jc_ic_0 ?_
  refine j_istore_n (i := 2) (lv' := [(2, .int 0), (0, .ref (ad 21)), (1, .int x1)]) C dX10_begin_1 rfl (by decide) rfl ?_
  refine j_sub [1, 2, 0] rfl ?_
  exact q_X10_begin_2 C Q (p_X10_begin_21 C Q ) x1 0 S hE
theorem c_X10_begin {l : Launch} {D : va_G} {ad : Nat → Nat} {cy : Nat → ClassId} (hO : jOk (jMain D ad cy)) (x1 : Int32) (S : jS) {z : jS} (hz : f_X10_begin x1 S = some z) : Met l yX10_begin (.code yX10_begin cX10_begin 3 (none) :: jT) { frames := 0, cells := 0, slots := 0, locals := 0 } (va_Pc [.ref (ad 21), .int x1] (jInv (jMain D ad cy) S)) (jQ (jMain D ad cy) (none, z)) 0 0 (yA (jMain D ad cy)) :=
  jMet hO (by decide +kernel) rfl (Nat.le_of_ble_eq_true rfl) (fun X _ C Q => p_X10_begin_e C Q x1 S hz)
theorem k_X11_81_X10_begin {X : jX} {D : va_G} {ad : Nat → Nat} {cy : Nat → ClassId} {cc : ByteArray} {ret : Option FieldType} {nL fr lo pc : Nat} {lv : List (Nat × Value)} {st : List Value} {S : jS} {β : Type} {z : β} (C : jC X (jMain D ad cy) RX11 cc ret nL fr lo) {a0 : Int32} {E : jS → Option β} (d : decode cc pc = .ok (.invokevirtual 81, 3)) (hE : jcv (f_X10_begin a0 S) E = some z) (hfr : 1 ≤ fr) (hlo : 22 ≤ lo) (hst : (st.map fun v => v.category).sum ≤ 8) (K : ∀ S1, E S1 = some z → jJ X (jMain D ad cy) (pc + 3) lv st S1) : jJ X (jMain D ad cy) pc lv (.int a0 :: .ref (ad 21) :: st) S := by
  obtain ⟨v, h1, h2⟩ := jcv_some hE
  exact j_callV (k := 21) (ci := 10) (T := TX10) (N := 8) (n := 1) (As := [.int a0]) C (c_X10_begin C.2.2.2.2.2.2.1 a0 S h1) tw_353 tw_354 tw_355 tw_80 tw_356 (by decide +kernel) rfl (by decide : 21 < 56) rfl rfl hfr hlo hst rfl d (K _ h2)
set_option maxRecDepth 100000 in
theorem p_X11_refuseBad_e {X : jX} {D : va_G} {ad : Nat → Nat} {cy : Nat → ClassId} (C : jC X (jMain D ad cy) RX11 cX11_refuseBad (some .int) 1 0 0) {z : Int32 × jS} (Q : jRet X (jMain D ad cy) (some (.int z.1), z.2))   (S : jS) (hE : f_X11_refuseBad_e    S = some z) : jJ X (jMain D ad cy) 0 [(0, .ref (ad 0))] [] S := by
  unfold f_X11_refuseBad_e at hE
  refine j_aload_n C dX11_refuseBad_0 0 rfl ?_
  refine j_dup C dX11_refuseBad_1 rfl ?_
  refine g_X11_273_0 C dX11_refuseBad_2 ?_
  refine j_iconst (v := 1) C dX11_refuseBad_5 jc_ic_1 ?_
  refine j_iadd C dX11_refuseBad_6 ?_
  refine p_X11_273_0 C dX11_refuseBad_7 hE (fun S1 hE => ?_)
  refine j_bipush (v := (-2)) C dX11_refuseBad_10 jc_bp_m2 ?_
  exact j_iret C Q dX11_refuseBad_12 hE
theorem c_X11_refuseBad {l : Launch} {D : va_G} {ad : Nat → Nat} {cy : Nat → ClassId} (hO : jOk (jMain D ad cy))  (S : jS) {z : Int32 × jS} (hz : f_X11_refuseBad  S = some z) : Met l yX11_refuseBad (.code yX11_refuseBad cX11_refuseBad 1 (some .int) :: jT) { frames := 0, cells := 0, slots := 0, locals := 0 } (va_Pc [.ref (ad 0)] (jInv (jMain D ad cy) S)) (jQ (jMain D ad cy) (some (.int z.1), z.2)) 0 0 (yA (jMain D ad cy)) :=
  jMet hO (by decide +kernel) rfl (Nat.le_of_ble_eq_true rfl) (fun X _ C Q => p_X11_refuseBad_e C Q  S hz)
theorem k_X11_74_X11_refuseBad {X : jX} {D : va_G} {ad : Nat → Nat} {cy : Nat → ClassId} {cc : ByteArray} {ret : Option FieldType} {nL fr lo pc : Nat} {lv : List (Nat × Value)} {st : List Value} {S : jS} {β : Type} {z : β} (C : jC X (jMain D ad cy) RX11 cc ret nL fr lo)  {E : Int32 → jS → Option β} (d : decode cc pc = .ok (.invokevirtual 74, 3)) (hE : jcl (f_X11_refuseBad  S) E = some z) (hfr : 1 ≤ fr) (hlo : 20 ≤ lo) (hst : (st.map fun v => v.category).sum ≤ 8) (K : ∀ (v : Int32) (S1 : jS), E v S1 = some z → jJ X (jMain D ad cy) (pc + 3) lv (.int v :: st) S1) : jJ X (jMain D ad cy) pc lv (.ref (ad 0) :: st) S := by
  obtain ⟨v, h1, h2⟩ := jcl_some hE
  exact j_callV (k := 0) (ci := 11) (T := TX11) (N := 16) (n := 0) (As := []) C (c_X11_refuseBad C.2.2.2.2.2.2.1  S h1) tw_345 tw_347 tw_0 tw_69 tw_348 (by decide +kernel) rfl (by decide : 0 < 56) rfl rfl hfr hlo hst rfl d (K _ _ h2)
set_option maxRecDepth 100000 in
theorem p_X11_street_e {X : jX} {D : va_G} {ad : Nat → Nat} {cy : Nat → ClassId} (C : jC X (jMain D ad cy) RX11 cX11_street (some .int) 4 1 22) {z : Int32 × jS} (Q : jRet X (jMain D ad cy) (some (.int z.1), z.2))  (x1 : Int32) (x2 : Int32) (S : jS) (hE : f_X11_street_e   x1 x2 S = some z) : jJ X (jMain D ad cy) 0 [(0, .ref (ad 0)), (1, .int x1), (2, .int x2)] [] S := by
  unfold f_X11_street_e at hE
  refine j_iload_n C dX11_street_0 1 rfl ?_
  refine j_iload_n C dX11_street_1 2 rfl ?_
  refine k_X11_70_X11_isLaw C dX11_street_2 hE (Nat.le_of_ble_eq_true rfl) (Nat.le_of_ble_eq_true rfl) (Nat.le_of_ble_eq_true rfl) (fun v2 S1 hE => ?_)
  refine j_if_ne (tgt := 13) C dX11_street_5 rfl hE (fun hE => ?_) (fun hE => ?_)
  · refine j_aload_n C dX11_street_13 0 rfl ?_
    refine g_X11_44_0 C dX11_street_14 ?_
    refine k_X11_78_X10_living C dX11_street_17 hE (Nat.le_of_ble_eq_true rfl) (Nat.le_of_ble_eq_true rfl) (Nat.le_of_ble_eq_true rfl) (fun v4 S3 hE => ?_)
    refine j_istore_n (i := 3) (lv' := [(3, .int v4), (0, .ref (ad 0)), (1, .int x1), (2, .int x2)]) C dX11_street_20 rfl (by decide) rfl ?_
    refine j_aload_n C dX11_street_21 1 rfl ?_
    refine g_X11_44_0 C dX11_street_22 ?_
    refine j_bipush (v := 10) C dX11_street_25 jc_bp_10 ?_
    refine j_iload_n C dX11_street_27 2 rfl ?_
    refine j_imul C dX11_street_28 ?_
    refine j_iload_n C dX11_street_29 3 rfl ?_
    refine j_iadd C dX11_street_30 ?_
    refine k_X11_81_X10_begin C dX11_street_31 hE (Nat.le_of_ble_eq_true rfl) (Nat.le_of_ble_eq_true rfl) (Nat.le_of_ble_eq_true rfl) (fun S5 hE => ?_)
    refine j_iload_n C dX11_street_34 0 rfl ?_
    exact j_iret C Q dX11_street_35 hE
  · refine j_aload_n C dX11_street_8 0 rfl ?_
    refine k_X11_74_X11_refuseBad C dX11_street_9 hE (Nat.le_of_ble_eq_true rfl) (Nat.le_of_ble_eq_true rfl) (Nat.le_of_ble_eq_true rfl) (fun v7 S6 hE => ?_)
    exact j_iret C Q dX11_street_12 hE
theorem c_X11_street {l : Launch} {D : va_G} {ad : Nat → Nat} {cy : Nat → ClassId} (hO : jOk (jMain D ad cy)) (x1 : Int32) (x2 : Int32) (S : jS) {z : Int32 × jS} (hz : f_X11_street x1 x2 S = some z) : Met l yX11_street (.code yX11_street cX11_street 4 (some .int) :: jT) { frames := 1, cells := 0, slots := 0, locals := 22 } (va_Pc [.ref (ad 0), .int x1, .int x2] (jInv (jMain D ad cy) S)) (jQ (jMain D ad cy) (some (.int z.1), z.2)) 0 0 (yA (jMain D ad cy)) :=
  jMet hO (by decide +kernel) rfl (Nat.le_of_ble_eq_true rfl) (fun X _ C Q => p_X11_street_e C Q x1 x2 S hz)
set_option maxRecDepth 100000 in
theorem p_X12_law_e {X : jX} {D : va_G} {ad : Nat → Nat} {cy : Nat → ClassId} (C : jC X (jMain D ad cy) RX12 cX12_law (some .int) 1 0 0) {z : Int32 × jS} (Q : jRet X (jMain D ad cy) (some (.int z.1), z.2))   (S : jS) (hE : f_X12_law_e    S = some z) : jJ X (jMain D ad cy) 0 [(0, .ref (ad 41))] [] S := by
  unfold f_X12_law_e at hE
  refine j_bipush (v := 10) C dX12_law_0 jc_bp_10 ?_
  refine j_aload_n C dX12_law_2 0 rfl ?_
  refine g_X12_7_41 C dX12_law_3 ?_
  refine j_bipush (v := 8) C dX12_law_6 jc_bp_8 ?_
  refine l_42 C dX12_law_8 hE (fun v1 hE => ?_)
  refine j_imul C dX12_law_9 ?_
  refine j_aload_n C dX12_law_10 0 rfl ?_
  refine g_X12_7_41 C dX12_law_11 ?_
  refine j_bipush (v := 9) C dX12_law_14 jc_bp_9 ?_
  refine l_42 C dX12_law_16 hE (fun v2 hE => ?_)
  refine j_iadd C dX12_law_17 ?_
  exact j_iret C Q dX12_law_18 hE
theorem c_X12_law {l : Launch} {D : va_G} {ad : Nat → Nat} {cy : Nat → ClassId} (hO : jOk (jMain D ad cy))  (S : jS) {z : Int32 × jS} (hz : f_X12_law  S = some z) : Met l yX12_law (.code yX12_law cX12_law 1 (some .int) :: jT) { frames := 0, cells := 0, slots := 0, locals := 0 } (va_Pc [.ref (ad 41)] (jInv (jMain D ad cy) S)) (jQ (jMain D ad cy) (some (.int z.1), z.2)) 0 0 (yA (jMain D ad cy)) :=
  jMet hO (by decide +kernel) rfl (Nat.le_of_ble_eq_true rfl) (fun X _ C Q => p_X12_law_e C Q  S hz)
theorem k_X12_102_X12_law {X : jX} {D : va_G} {ad : Nat → Nat} {cy : Nat → ClassId} {cc : ByteArray} {ret : Option FieldType} {nL fr lo pc : Nat} {lv : List (Nat × Value)} {st : List Value} {S : jS} {β : Type} {z : β} (C : jC X (jMain D ad cy) RX12 cc ret nL fr lo)  {E : Int32 → jS → Option β} (d : decode cc pc = .ok (.invokevirtual 102, 3)) (hE : jcl (f_X12_law  S) E = some z) (hfr : 1 ≤ fr) (hlo : 20 ≤ lo) (hst : (st.map fun v => v.category).sum ≤ 8) (K : ∀ (v : Int32) (S1 : jS), E v S1 = some z → jJ X (jMain D ad cy) (pc + 3) lv (.int v :: st) S1) : jJ X (jMain D ad cy) pc lv (.ref (ad 41) :: st) S := by
  obtain ⟨v, h1, h2⟩ := jcl_some hE
  exact j_callV (k := 41) (ci := 12) (T := TX12) (N := 25) (n := 0) (As := []) C (c_X12_law C.2.2.2.2.2.2.1  S h1) tw_979 tw_981 tw_34 tw_81 tw_982 (by decide +kernel) rfl (by decide : 41 < 56) rfl rfl hfr hlo hst rfl d (K _ _ h2)
set_option maxRecDepth 100000 in
theorem p_X12_keep_55 {X : jX} {D : va_G} {ad : Nat → Nat} {cy : Nat → ClassId} (C : jC X (jMain D ad cy) RX12 cX12_keep (none) 2 0 0) {z : jS} (Q : jRet X (jMain D ad cy) (none, z)) {g : Int32 → jS → Option (jS)} (hg : ∀ (x1 : Int32) (S : jS), g x1 S = some z → jJ X (jMain D ad cy) 55 [(0, .ref (ad 41)), (1, .int x1)] [] S) {k93 : jS → Option (jS)} (hk93 : ∀  (S : jS), k93  S = some z → jJ X (jMain D ad cy) 93 [(0, .ref (ad 41))] [] S) (x1 : Int32) (S : jS) (hE : f_X12_keep_55  g k93 x1 S = some z) : jJ X (jMain D ad cy) 55 [(0, .ref (ad 41)), (1, .int x1)] [] S := by
  unfold f_X12_keep_55 at hE
  refine j_iload_n C dX12_keep_55 1 rfl ?_
  refine j_bipush (v := 10) C dX12_keep_56 jc_bp_10 ?_
  refine j_icmp_ge (tgt := 93) C dX12_keep_58 rfl hE (fun hE => ?_) (fun hE => ?_)
  · refine j_sub [0] rfl ?_
    exact hk93  S hE
  · refine j_aload_n C dX12_keep_61 0 rfl ?_
    refine g_X12_7_41 C dX12_keep_62 ?_
    refine j_bipush (v := 69) C dX12_keep_65 jc_bp_69 ?_
    refine j_bipush (v := 10) C dX12_keep_67 jc_bp_10 ?_
    refine j_aload_n C dX12_keep_69 0 rfl ?_
    refine g_X12_7_41 C dX12_keep_70 ?_
    refine j_bipush (v := 12) C dX12_keep_73 jc_bp_12 ?_
    refine l_42 C dX12_keep_75 hE (fun v1 hE => ?_)
    refine j_imul C dX12_keep_76 ?_
    refine j_iadd C dX12_keep_77 ?_
    refine j_iload_n C dX12_keep_78 1 rfl ?_
    refine j_iadd C dX12_keep_79 ?_
    refine j_aload_n C dX12_keep_80 0 rfl ?_
    refine g_X12_7_41 C dX12_keep_81 ?_
    refine j_iload_n C dX12_keep_84 1 rfl ?_
    refine l_42 C dX12_keep_85 hE (fun v2 hE => ?_)
    refine s_42 C dX12_keep_86 hE (fun S3 hE => ?_)
    refine j_iinc (v := (x1 + 1)) (lv' := [(1, .int (x1 + 1)), (0, .ref (ad 41))]) C dX12_keep_87 1 rfl (congrArg (fun w => x1 + w) jc_ic_1) (by decide) rfl ?_
    refine j_goto (tgt := 55) C dX12_keep_90 rfl ?_
    refine j_sub [1, 0] rfl ?_
    exact hg (x1 + 1) S3 hE
theorem q_X12_keep_55 {X : jX} {D : va_G} {ad : Nat → Nat} {cy : Nat → ClassId} (C : jC X (jMain D ad cy) RX12 cX12_keep (none) 2 0 0) {z : jS} (Q : jRet X (jMain D ad cy) (none, z)) {k93 : jS → Option (jS)} (hk93 : ∀  (S : jS), k93  S = some z → jJ X (jMain D ad cy) 93 [(0, .ref (ad 41))] [] S) (x1 : Int32) (S : jS) (hE : lp_X12_keep_55  k93 x1 S = some z) : jJ X (jMain D ad cy) 55 [(0, .ref (ad 41)), (1, .int x1)] [] S :=
  jloop_P (α := Int32 × jS) (B := (fun g q => f_X12_keep_55  (fun x1 S => g (x1, S)) k93 q.1 q.2)) (P := fun q => jJ X (jMain D ad cy) 55 [(0, .ref (ad 41)), (1, .int q.1)] [] q.2) (fun g q hg h => p_X12_keep_55 C Q (g := fun x1 S => g (x1, S)) (fun x1 S h => hg (x1, S) h) hk93 q.1 q.2 h) jN (x1, S) hE
set_option maxRecDepth 100000 in
theorem p_X12_keep_93 {X : jX} {D : va_G} {ad : Nat → Nat} {cy : Nat → ClassId} (C : jC X (jMain D ad cy) RX12 cX12_keep (none) 2 0 0) {z : jS} (Q : jRet X (jMain D ad cy) (none, z))   (S : jS) (hE : f_X12_keep_93    S = some z) : jJ X (jMain D ad cy) 93 [(0, .ref (ad 41))] [] S := by
  unfold f_X12_keep_93 at hE
  refine j_aload_n C dX12_keep_93 0 rfl ?_
  refine g_X12_7_41 C dX12_keep_94 ?_
  refine j_bipush (v := 12) C dX12_keep_97 jc_bp_12 ?_
  refine j_dup2 C dX12_keep_99 rfl rfl ?_
  refine l_42 C dX12_keep_100 hE (fun v1 hE => ?_)
  refine j_iconst (v := 1) C dX12_keep_101 jc_ic_1 ?_
  refine j_iadd C dX12_keep_102 ?_
  refine s_42 C dX12_keep_103 hE (fun S2 hE => ?_)
  exact j_vret C Q dX12_keep_104 hE
set_option maxRecDepth 100000 in
theorem p_X12_keep_53 {X : jX} {D : va_G} {ad : Nat → Nat} {cy : Nat → ClassId} (C : jC X (jMain D ad cy) RX12 cX12_keep (none) 2 0 0) {z : jS} (Q : jRet X (jMain D ad cy) (none, z))   (S : jS) (hE : f_X12_keep_53    S = some z) : jJ X (jMain D ad cy) 53 [(0, .ref (ad 41))] [] S := by
  unfold f_X12_keep_53 at hE
  refine j_iconst (v := 0) C dX12_keep_53 jc_ic_0 ?_
  refine j_istore_n (i := 1) (lv' := [(1, .int 0), (0, .ref (ad 41))]) C dX12_keep_54 rfl (by decide) rfl ?_
  refine j_sub [1, 0] rfl ?_
  exact q_X12_keep_55 C Q (p_X12_keep_93 C Q ) 0 S hE
set_option maxRecDepth 100000 in
theorem p_X12_keep_14 {X : jX} {D : va_G} {ad : Nat → Nat} {cy : Nat → ClassId} (C : jC X (jMain D ad cy) RX12 cX12_keep (none) 2 0 0) {z : jS} (Q : jRet X (jMain D ad cy) (none, z)) {g : Int32 → jS → Option (jS)} (hg : ∀ (x1 : Int32) (S : jS), g x1 S = some z → jJ X (jMain D ad cy) 14 [(0, .ref (ad 41)), (1, .int x1)] [] S) {k44 : jS → Option (jS)} (hk44 : ∀  (S : jS), k44  S = some z → jJ X (jMain D ad cy) 44 [(0, .ref (ad 41))] [] S) (x1 : Int32) (S : jS) (hE : f_X12_keep_14  g k44 x1 S = some z) : jJ X (jMain D ad cy) 14 [(0, .ref (ad 41)), (1, .int x1)] [] S := by
  unfold f_X12_keep_14 at hE
  refine j_iload_n C dX12_keep_14 1 rfl ?_
  refine j_bipush (v := 70) C dX12_keep_15 jc_bp_70 ?_
  refine j_icmp_ge (tgt := 44) C dX12_keep_17 rfl hE (fun hE => ?_) (fun hE => ?_)
  · refine j_sub [0] rfl ?_
    exact hk44  S hE
  · refine j_aload_n C dX12_keep_20 0 rfl ?_
    refine g_X12_7_41 C dX12_keep_21 ?_
    refine j_bipush (v := 69) C dX12_keep_24 jc_bp_69 ?_
    refine j_iload_n C dX12_keep_26 1 rfl ?_
    refine j_iadd C dX12_keep_27 ?_
    refine j_aload_n C dX12_keep_28 0 rfl ?_
    refine g_X12_7_41 C dX12_keep_29 ?_
    refine j_bipush (v := 79) C dX12_keep_32 jc_bp_79 ?_
    refine j_iload_n C dX12_keep_34 1 rfl ?_
    refine j_iadd C dX12_keep_35 ?_
    refine l_42 C dX12_keep_36 hE (fun v1 hE => ?_)
    refine s_42 C dX12_keep_37 hE (fun S2 hE => ?_)
    refine j_iinc (v := (x1 + 1)) (lv' := [(1, .int (x1 + 1)), (0, .ref (ad 41))]) C dX12_keep_38 1 rfl (congrArg (fun w => x1 + w) jc_ic_1) (by decide) rfl ?_
    refine j_goto (tgt := 14) C dX12_keep_41 rfl ?_
    refine j_sub [1, 0] rfl ?_
    exact hg (x1 + 1) S2 hE
theorem q_X12_keep_14 {X : jX} {D : va_G} {ad : Nat → Nat} {cy : Nat → ClassId} (C : jC X (jMain D ad cy) RX12 cX12_keep (none) 2 0 0) {z : jS} (Q : jRet X (jMain D ad cy) (none, z)) {k44 : jS → Option (jS)} (hk44 : ∀  (S : jS), k44  S = some z → jJ X (jMain D ad cy) 44 [(0, .ref (ad 41))] [] S) (x1 : Int32) (S : jS) (hE : lp_X12_keep_14  k44 x1 S = some z) : jJ X (jMain D ad cy) 14 [(0, .ref (ad 41)), (1, .int x1)] [] S :=
  jloop_P (α := Int32 × jS) (B := (fun g q => f_X12_keep_14  (fun x1 S => g (x1, S)) k44 q.1 q.2)) (P := fun q => jJ X (jMain D ad cy) 14 [(0, .ref (ad 41)), (1, .int q.1)] [] q.2) (fun g q hg h => p_X12_keep_14 C Q (g := fun x1 S => g (x1, S)) (fun x1 S h => hg (x1, S) h) hk44 q.1 q.2 h) jN (x1, S) hE
set_option maxRecDepth 100000 in
theorem p_X12_keep_44 {X : jX} {D : va_G} {ad : Nat → Nat} {cy : Nat → ClassId} (C : jC X (jMain D ad cy) RX12 cX12_keep (none) 2 0 0) {z : jS} (Q : jRet X (jMain D ad cy) (none, z))   (S : jS) (hE : f_X12_keep_44    S = some z) : jJ X (jMain D ad cy) 44 [(0, .ref (ad 41))] [] S := by
  unfold f_X12_keep_44 at hE
  refine j_aload_n C dX12_keep_44 0 rfl ?_
  refine g_X12_7_41 C dX12_keep_45 ?_
  refine j_bipush (v := 12) C dX12_keep_48 jc_bp_12 ?_
  refine j_bipush (v := 7) C dX12_keep_50 jc_bp_7 ?_
  refine s_42 C dX12_keep_52 hE (fun S1 hE => ?_)
  exact p_X12_keep_53 C Q   S1 hE
set_option maxRecDepth 100000 in
theorem p_X12_keep_e {X : jX} {D : va_G} {ad : Nat → Nat} {cy : Nat → ClassId} (C : jC X (jMain D ad cy) RX12 cX12_keep (none) 2 0 0) {z : jS} (Q : jRet X (jMain D ad cy) (none, z))   (S : jS) (hE : f_X12_keep_e    S = some z) : jJ X (jMain D ad cy) 0 [(0, .ref (ad 41))] [] S := by
  unfold f_X12_keep_e at hE
  refine j_aload_n C dX12_keep_0 0 rfl ?_
  refine g_X12_7_41 C dX12_keep_1 ?_
  refine j_bipush (v := 12) C dX12_keep_4 jc_bp_12 ?_
  refine l_42 C dX12_keep_6 hE (fun v1 hE => ?_)
  refine j_bipush (v := 8) C dX12_keep_7 jc_bp_8 ?_
  refine j_icmp_ne (tgt := 53) C dX12_keep_9 rfl hE (fun hE => ?_) (fun hE => ?_)
  · exact p_X12_keep_53 C Q   S hE
  · refine j_iconst (v := 0) C dX12_keep_12 jc_ic_0 ?_
    refine j_istore_n (i := 1) (lv' := [(1, .int 0), (0, .ref (ad 41))]) C dX12_keep_13 rfl (by decide) rfl ?_
    refine j_sub [1, 0] rfl ?_
    exact q_X12_keep_14 C Q (p_X12_keep_44 C Q ) 0 S hE
theorem c_X12_keep {l : Launch} {D : va_G} {ad : Nat → Nat} {cy : Nat → ClassId} (hO : jOk (jMain D ad cy))  (S : jS) {z : jS} (hz : f_X12_keep  S = some z) : Met l yX12_keep (.code yX12_keep cX12_keep 2 (none) :: jT) { frames := 0, cells := 0, slots := 0, locals := 0 } (va_Pc [.ref (ad 41)] (jInv (jMain D ad cy) S)) (jQ (jMain D ad cy) (none, z)) 0 0 (yA (jMain D ad cy)) :=
  jMet hO (by decide +kernel) rfl (Nat.le_of_ble_eq_true rfl) (fun X _ C Q => p_X12_keep_e C Q  S hz)
theorem k_X12_105_X12_keep {X : jX} {D : va_G} {ad : Nat → Nat} {cy : Nat → ClassId} {cc : ByteArray} {ret : Option FieldType} {nL fr lo pc : Nat} {lv : List (Nat × Value)} {st : List Value} {S : jS} {β : Type} {z : β} (C : jC X (jMain D ad cy) RX12 cc ret nL fr lo)  {E : jS → Option β} (d : decode cc pc = .ok (.invokevirtual 105, 3)) (hE : jcv (f_X12_keep  S) E = some z) (hfr : 1 ≤ fr) (hlo : 21 ≤ lo) (hst : (st.map fun v => v.category).sum ≤ 8) (K : ∀ S1, E S1 = some z → jJ X (jMain D ad cy) (pc + 3) lv st S1) : jJ X (jMain D ad cy) pc lv (.ref (ad 41) :: st) S := by
  obtain ⟨v, h1, h2⟩ := jcv_some hE
  exact j_callV (k := 41) (ci := 12) (T := TX12) (N := 25) (n := 0) (As := []) C (c_X12_keep C.2.2.2.2.2.2.1  S h1) tw_983 tw_985 tw_35 tw_81 tw_986 (by decide +kernel) rfl (by decide : 41 < 56) rfl rfl hfr hlo hst rfl d (K _ h2)
set_option maxRecDepth 100000 in
theorem p_X12_rule_e {X : jX} {D : va_G} {ad : Nat → Nat} {cy : Nat → ClassId} (C : jC X (jMain D ad cy) RX12 cX12_rule (some .int) 4 2 46) {z : Int32 × jS} (Q : jRet X (jMain D ad cy) (some (.int z.1), z.2))  (x1 : Int32) (x2 : Int32) (S : jS) (hE : f_X12_rule_e   x1 x2 S = some z) : jJ X (jMain D ad cy) 0 [(0, .ref (ad 41)), (1, .int x1), (2, .int x2)] [] S := by
  unfold f_X12_rule_e at hE
  refine j_iload_n C dX12_rule_0 1 rfl ?_
  refine j_iload_n C dX12_rule_1 2 rfl ?_
  refine k_X12_84_X12_isLaw C dX12_rule_2 hE (Nat.le_of_ble_eq_true rfl) (Nat.le_of_ble_eq_true rfl) (Nat.le_of_ble_eq_true rfl) (fun v2 S1 hE => ?_)
  refine j_if_ne (tgt := 15) C dX12_rule_5 rfl hE (fun hE => ?_) (fun hE => ?_)
  · refine j_aload_n C dX12_rule_15 0 rfl ?_
    refine k_X12_102_X12_law C dX12_rule_16 hE (Nat.le_of_ble_eq_true rfl) (Nat.le_of_ble_eq_true rfl) (Nat.le_of_ble_eq_true rfl) (fun v4 S3 hE => ?_)
    refine j_istore_n (i := 3) (lv' := [(3, .int v4), (0, .ref (ad 41)), (1, .int x1), (2, .int x2)]) C dX12_rule_19 rfl (by decide) rfl ?_
    refine j_aload_n C dX12_rule_20 1 rfl ?_
    refine k_X12_105_X12_keep C dX12_rule_21 hE (Nat.le_of_ble_eq_true rfl) (Nat.le_of_ble_eq_true rfl) (Nat.le_of_ble_eq_true rfl) (fun S5 hE => ?_)
    refine j_aload_n C dX12_rule_24 1 rfl ?_
    refine g_X12_7_41 C dX12_rule_25 ?_
    refine j_bipush (v := 8) C dX12_rule_28 jc_bp_8 ?_
    refine j_iload_n C dX12_rule_30 2 rfl ?_
    refine s_42 C dX12_rule_31 hE (fun S6 hE => ?_)
    refine j_aload_n C dX12_rule_32 1 rfl ?_
    refine g_X12_7_41 C dX12_rule_33 ?_
    refine j_bipush (v := 9) C dX12_rule_36 jc_bp_9 ?_
    refine j_iload_n C dX12_rule_38 3 rfl ?_
    refine s_42 C dX12_rule_39 hE (fun S7 hE => ?_)
    refine j_iload_n C dX12_rule_40 0 rfl ?_
    exact j_iret C Q dX12_rule_41 hE
  · refine j_aload_n C dX12_rule_8 0 rfl ?_
    refine j_bipush (v := (-2)) C dX12_rule_9 jc_bp_m2 ?_
    refine k_X12_87_X12_bad C dX12_rule_11 hE (Nat.le_of_ble_eq_true rfl) (Nat.le_of_ble_eq_true rfl) (Nat.le_of_ble_eq_true rfl) (fun v9 S8 hE => ?_)
    exact j_iret C Q dX12_rule_14 hE
theorem c_X12_rule {l : Launch} {D : va_G} {ad : Nat → Nat} {cy : Nat → ClassId} (hO : jOk (jMain D ad cy)) (x1 : Int32) (x2 : Int32) (S : jS) {z : Int32 × jS} (hz : f_X12_rule x1 x2 S = some z) : Met l yX12_rule (.code yX12_rule cX12_rule 4 (some .int) :: jT) { frames := 2, cells := 0, slots := 0, locals := 46 } (va_Pc [.ref (ad 41), .int x1, .int x2] (jInv (jMain D ad cy) S)) (jQ (jMain D ad cy) (some (.int z.1), z.2)) 0 0 (yA (jMain D ad cy)) :=
  jMet hO (by decide +kernel) rfl (Nat.le_of_ble_eq_true rfl) (fun X _ C Q => p_X12_rule_e C Q x1 x2 S hz)
set_option maxRecDepth 100000 in
theorem p_X10_remember_31 {X : jX} {D : va_G} {ad : Nat → Nat} {cy : Nat → ClassId} (C : jC X (jMain D ad cy) RX10 cX10_remember (none) 2 1 48) {z : jS} (Q : jRet X (jMain D ad cy) (none, z))   (S : jS) (hE : f_X10_remember_31    S = some z) : jJ X (jMain D ad cy) 31 [(0, .ref (ad 21))] [] S := by
  unfold f_X10_remember_31 at hE
  refine j_aload_n C dX10_remember_31 0 rfl ?_
  refine g_X10_34_21 C dX10_remember_32 ?_
  refine j_bipush (v := 9) C dX10_remember_35 jc_bp_9 ?_
  refine j_imul C dX10_remember_37 ?_
  refine j_istore_n (i := 1) (lv' := [(1, .int ((S.1 21 6) * 9)), (0, .ref (ad 21))]) C dX10_remember_38 rfl (by decide) rfl ?_
  refine j_aload_n C dX10_remember_39 1 rfl ?_
  refine g_X10_9_21 C dX10_remember_40 ?_
  refine j_iconst (v := 0) C dX10_remember_43 jc_ic_0 ?_
  refine j_aload_n C dX10_remember_44 1 rfl ?_
  refine g_X10_21_21 C dX10_remember_45 ?_
  refine j_iload_n C dX10_remember_48 0 rfl ?_
  refine j_bipush (v := 8) C dX10_remember_49 jc_bp_8 ?_
  refine y_X10_37_22_25 C dX10_remember_51 (Nat.le_of_ble_eq_true rfl) (by decide) hE (fun S1 hE => ?_)
  refine j_aload_n C dX10_remember_54 1 rfl ?_
  refine g_X10_21_21 C dX10_remember_55 ?_
  refine j_iload_n C dX10_remember_58 0 rfl ?_
  refine j_bipush (v := 8) C dX10_remember_59 jc_bp_8 ?_
  refine j_iadd C dX10_remember_61 ?_
  refine j_aload_n C dX10_remember_62 1 rfl ?_
  refine g_X10_24_21 C dX10_remember_63 ?_
  refine s_25 C dX10_remember_66 hE (fun S2 hE => ?_)
  refine j_aload_n C dX10_remember_67 1 rfl ?_
  refine j_dup C dX10_remember_68 rfl ?_
  refine g_X10_34_21 C dX10_remember_69 ?_
  refine j_iconst (v := 1) C dX10_remember_72 jc_ic_1 ?_
  refine j_iadd C dX10_remember_73 ?_
  refine p_X10_34_21 C dX10_remember_74 hE (fun S3 hE => ?_)
  exact j_vret C Q dX10_remember_77 hE
set_option maxRecDepth 100000 in
theorem p_X10_remember_e {X : jX} {D : va_G} {ad : Nat → Nat} {cy : Nat → ClassId} (C : jC X (jMain D ad cy) RX10 cX10_remember (none) 2 1 48) {z : jS} (Q : jRet X (jMain D ad cy) (none, z))   (S : jS) (hE : f_X10_remember_e    S = some z) : jJ X (jMain D ad cy) 0 [(0, .ref (ad 21))] [] S := by
  unfold f_X10_remember_e at hE
  refine j_aload_n C dX10_remember_0 0 rfl ?_
  refine g_X10_34_21 C dX10_remember_1 ?_
  refine j_bipush (v := 8) C dX10_remember_4 jc_bp_8 ?_
  refine j_icmp_lt (tgt := 31) C dX10_remember_6 rfl hE (fun hE => ?_) (fun hE => ?_)
  · exact p_X10_remember_31 C Q   S hE
  · refine j_aload_n C dX10_remember_9 0 rfl ?_
    refine g_X10_21_21 C dX10_remember_10 ?_
    refine j_bipush (v := 9) C dX10_remember_13 jc_bp_9 ?_
    refine j_aload_n C dX10_remember_15 0 rfl ?_
    refine g_X10_21_21 C dX10_remember_16 ?_
    refine j_iconst (v := 0) C dX10_remember_19 jc_ic_0 ?_
    refine j_bipush (v := 63) C dX10_remember_20 jc_bp_63 ?_
    refine y_X10_37_25_25 C dX10_remember_22 (Nat.le_of_ble_eq_true rfl) (by decide) hE (fun S1 hE => ?_)
    refine j_aload_n C dX10_remember_25 0 rfl ?_
    refine j_bipush (v := 7) C dX10_remember_26 jc_bp_7 ?_
    refine p_X10_34_21 C dX10_remember_28 hE (fun S2 hE => ?_)
    exact p_X10_remember_31 C Q   S2 hE
theorem c_X10_remember {l : Launch} {D : va_G} {ad : Nat → Nat} {cy : Nat → ClassId} (hO : jOk (jMain D ad cy))  (S : jS) {z : jS} (hz : f_X10_remember  S = some z) : Met l yX10_remember (.code yX10_remember cX10_remember 2 (none) :: jT) { frames := 1, cells := 0, slots := 0, locals := 48 } (va_Pc [.ref (ad 21)] (jInv (jMain D ad cy) S)) (jQ (jMain D ad cy) (none, z)) 0 0 (yA (jMain D ad cy)) :=
  jMet hO (by decide +kernel) rfl (Nat.le_of_ble_eq_true rfl) (fun X _ C Q => p_X10_remember_e C Q  S hz)
theorem k_X11_89_X10_remember {X : jX} {D : va_G} {ad : Nat → Nat} {cy : Nat → ClassId} {cc : ByteArray} {ret : Option FieldType} {nL fr lo pc : Nat} {lv : List (Nat × Value)} {st : List Value} {S : jS} {β : Type} {z : β} (C : jC X (jMain D ad cy) RX11 cc ret nL fr lo)  {E : jS → Option β} (d : decode cc pc = .ok (.invokevirtual 89, 3)) (hE : jcv (f_X10_remember  S) E = some z) (hfr : 2 ≤ fr) (hlo : 69 ≤ lo) (hst : (st.map fun v => v.category).sum ≤ 8) (K : ∀ S1, E S1 = some z → jJ X (jMain D ad cy) (pc + 3) lv st S1) : jJ X (jMain D ad cy) pc lv (.ref (ad 21) :: st) S := by
  obtain ⟨v, h1, h2⟩ := jcv_some hE
  exact j_callV (k := 21) (ci := 10) (T := TX10) (N := 8) (n := 0) (As := []) C (c_X10_remember C.2.2.2.2.2.2.1  S h1) tw_361 tw_362 tw_363 tw_80 tw_364 (by decide +kernel) rfl (by decide : 21 < 56) rfl rfl hfr hlo hst rfl d (K _ h2)
set_option maxRecDepth 100000 in
theorem p_X11_rule_e {X : jX} {D : va_G} {ad : Nat → Nat} {cy : Nat → ClassId} (C : jC X (jMain D ad cy) RX11 cX11_rule (some .int) 4 2 69) {z : Int32 × jS} (Q : jRet X (jMain D ad cy) (some (.int z.1), z.2))  (x1 : Int32) (x2 : Int32) (S : jS) (hE : f_X11_rule_e   x1 x2 S = some z) : jJ X (jMain D ad cy) 0 [(0, .ref (ad 0)), (1, .int x1), (2, .int x2)] [] S := by
  unfold f_X11_rule_e at hE
  refine j_iload_n C dX11_rule_0 1 rfl ?_
  refine j_iload_n C dX11_rule_1 2 rfl ?_
  refine k_X11_70_X11_isLaw C dX11_rule_2 hE (Nat.le_of_ble_eq_true rfl) (Nat.le_of_ble_eq_true rfl) (Nat.le_of_ble_eq_true rfl) (fun v2 S1 hE => ?_)
  refine j_if_ne (tgt := 13) C dX11_rule_5 rfl hE (fun hE => ?_) (fun hE => ?_)
  · refine j_aload_n C dX11_rule_13 0 rfl ?_
    refine g_X11_44_0 C dX11_rule_14 ?_
    refine g_X11_85_21 C dX11_rule_17 ?_
    refine j_istore_n (i := 3) (lv' := [(3, .int (S1.1 21 1)), (0, .ref (ad 0)), (1, .int x1), (2, .int x2)]) C dX11_rule_20 rfl (by decide) rfl ?_
    refine j_aload_n C dX11_rule_21 1 rfl ?_
    refine g_X11_44_0 C dX11_rule_22 ?_
    refine k_X11_89_X10_remember C dX11_rule_25 hE (Nat.le_of_ble_eq_true rfl) (Nat.le_of_ble_eq_true rfl) (Nat.le_of_ble_eq_true rfl) (fun S3 hE => ?_)
    refine j_aload_n C dX11_rule_28 1 rfl ?_
    refine g_X11_44_0 C dX11_rule_29 ?_
    refine j_bipush (v := 10) C dX11_rule_32 jc_bp_10 ?_
    refine j_iload_n C dX11_rule_34 2 rfl ?_
    refine j_imul C dX11_rule_35 ?_
    refine j_iload_n C dX11_rule_36 3 rfl ?_
    refine j_iadd C dX11_rule_37 ?_
    refine p_X11_85_21 C dX11_rule_38 hE (fun S4 hE => ?_)
    refine j_iload_n C dX11_rule_41 0 rfl ?_
    exact j_iret C Q dX11_rule_42 hE
  · refine j_aload_n C dX11_rule_8 0 rfl ?_
    refine k_X11_74_X11_refuseBad C dX11_rule_9 hE (Nat.le_of_ble_eq_true rfl) (Nat.le_of_ble_eq_true rfl) (Nat.le_of_ble_eq_true rfl) (fun v6 S5 hE => ?_)
    exact j_iret C Q dX11_rule_12 hE
theorem c_X11_rule {l : Launch} {D : va_G} {ad : Nat → Nat} {cy : Nat → ClassId} (hO : jOk (jMain D ad cy)) (x1 : Int32) (x2 : Int32) (S : jS) {z : Int32 × jS} (hz : f_X11_rule x1 x2 S = some z) : Met l yX11_rule (.code yX11_rule cX11_rule 4 (some .int) :: jT) { frames := 2, cells := 0, slots := 0, locals := 69 } (va_Pc [.ref (ad 0), .int x1, .int x2] (jInv (jMain D ad cy) S)) (jQ (jMain D ad cy) (some (.int z.1), z.2)) 0 0 (yA (jMain D ad cy)) :=
  jMet hO (by decide +kernel) rfl (Nat.le_of_ble_eq_true rfl) (fun X _ C Q => p_X11_rule_e C Q x1 x2 S hz)
set_option maxRecDepth 100000 in
theorem p_X12_isHouse_e {X : jX} {D : va_G} {ad : Nat → Nat} {cy : Nat → ClassId} (C : jC X (jMain D ad cy) RX12 cX12_isHouse (some .boolean) 1 1 25) {z : Int32 × jS} (Q : jRet X (jMain D ad cy) (some (.int z.1), z.2))  (x0 : Int32) (S : jS) (hE : f_X12_isHouse_e   x0 S = some z) : jJ X (jMain D ad cy) 0 [(0, .int x0)] [] S := by
  unfold f_X12_isHouse_e at hE
  refine j_iload_n C dX12_isHouse_0 0 rfl ?_
  refine j_i2l C dX12_isHouse_1 ?_
  refine j_lconst (v := 0) C dX12_isHouse_2 jc_lc_0 ?_
  refine j_ldc2 (v := 7) C dX12_isHouse_3 tw_994 ?_
  refine k_X12_59_X12_in C dX12_isHouse_6 hE (Nat.le_of_ble_eq_true rfl) (Nat.le_of_ble_eq_true rfl) (Nat.le_of_ble_eq_true rfl) (fun v2 S1 hE => ?_)
  exact j_zret C Q dX12_isHouse_9 hE
theorem c_X12_isHouse {l : Launch} {D : va_G} {ad : Nat → Nat} {cy : Nat → ClassId} (hO : jOk (jMain D ad cy)) (x0 : Int32) (S : jS) {z : Int32 × jS} (hz : f_X12_isHouse x0 S = some z) : Met l yX12_isHouse (.code yX12_isHouse cX12_isHouse 1 (some .boolean) :: jT) { frames := 1, cells := 0, slots := 0, locals := 25 } (va_Pc [.int x0] (jInv (jMain D ad cy) S)) (jQ (jMain D ad cy) (some (.int z.1), z.2)) 0 0 (yA (jMain D ad cy)) :=
  jMet hO (by decide +kernel) rfl (Nat.le_of_ble_eq_true rfl) (fun X _ C Q => p_X12_isHouse_e C Q x0 S hz)
theorem k_X12_108_X12_isHouse {X : jX} {D : va_G} {ad : Nat → Nat} {cy : Nat → ClassId} {cc : ByteArray} {ret : Option FieldType} {nL fr lo pc : Nat} {lv : List (Nat × Value)} {st : List Value} {S : jS} {β : Type} {z : β} (C : jC X (jMain D ad cy) RX12 cc ret nL fr lo) {a0 : Int32} {E : Int32 → jS → Option β} (d : decode cc pc = .ok (.invokestatic 108, 3)) (hE : jcl (f_X12_isHouse a0 S) E = some z) (hfr : 2 ≤ fr) (hlo : 45 ≤ lo) (hst : (st.map fun v => v.category).sum ≤ 8) (K : ∀ (v : Int32) (S1 : jS), E v S1 = some z → jJ X (jMain D ad cy) (pc + 3) lv (.int v :: st) S1) : jJ X (jMain D ad cy) pc lv (.int a0 :: st) S := by
  obtain ⟨v, h1, h2⟩ := jcl_some hE
  exact j_callS (n := 1) (As := [.int a0]) C (c_X12_isHouse C.2.2.2.2.2.2.1 a0 S h1) tw_991 tw_992 tw_81 tw_993 (by decide +kernel) rfl hfr hlo hst rfl d (K _ _ h2)
set_option maxRecDepth 100000 in
theorem p_X12_house_19 {X : jX} {D : va_G} {ad : Nat → Nat} {cy : Nat → ClassId} (C : jC X (jMain D ad cy) RX12 cX12_house (some .int) 4 2 45) {z : Int32 × jS} (Q : jRet X (jMain D ad cy) (some (.int z.1), z.2))   (S : jS) (hE : f_X12_house_19    S = some z) : jJ X (jMain D ad cy) 19 [(0, .ref (ad 41))] [] S := by
  unfold f_X12_house_19 at hE
  refine j_aload_n C dX12_house_19 0 rfl ?_
  refine j_bipush (v := (-2)) C dX12_house_20 jc_bp_m2 ?_
  refine k_X12_87_X12_bad C dX12_house_22 hE (Nat.le_of_ble_eq_true rfl) (Nat.le_of_ble_eq_true rfl) (Nat.le_of_ble_eq_true rfl) (fun v2 S1 hE => ?_)
  exact j_iret C Q dX12_house_25 hE
set_option maxRecDepth 100000 in
theorem p_X12_house_e {X : jX} {D : va_G} {ad : Nat → Nat} {cy : Nat → ClassId} (C : jC X (jMain D ad cy) RX12 cX12_house (some .int) 4 2 45) {z : Int32 × jS} (Q : jRet X (jMain D ad cy) (some (.int z.1), z.2))  (x1 : Int32) (x2 : Int32) (S : jS) (hE : f_X12_house_e   x1 x2 S = some z) : jJ X (jMain D ad cy) 0 [(0, .ref (ad 41)), (1, .int x1), (2, .int x2)] [] S := by
  unfold f_X12_house_e at hE
  refine j_iload_n C dX12_house_0 1 rfl ?_
  refine k_X12_108_X12_isHouse C dX12_house_1 hE (Nat.le_of_ble_eq_true rfl) (Nat.le_of_ble_eq_true rfl) (Nat.le_of_ble_eq_true rfl) (fun v2 S1 hE => ?_)
  refine j_if_eq (tgt := 19) C dX12_house_4 rfl hE (fun hE => ?_) (fun hE => ?_)
  · refine j_sub [0] rfl ?_
    exact p_X12_house_19 C Q   S1 hE
  · refine j_iload_n C dX12_house_7 2 rfl ?_
    refine j_i2l C dX12_house_8 ?_
    refine j_lconst (v := 0) C dX12_house_9 jc_lc_0 ?_
    refine j_ldc2 (v := 300) C dX12_house_10 tw_995 ?_
    refine k_X12_59_X12_in C dX12_house_13 hE (Nat.le_of_ble_eq_true rfl) (Nat.le_of_ble_eq_true rfl) (Nat.le_of_ble_eq_true rfl) (fun v4 S3 hE => ?_)
    refine j_if_ne (tgt := 26) C dX12_house_16 rfl hE (fun hE => ?_) (fun hE => ?_)
    · refine j_aload_n C dX12_house_26 0 rfl ?_
      refine g_X12_7_41 C dX12_house_27 ?_
      refine j_iload_n C dX12_house_30 1 rfl ?_
      refine l_42 C dX12_house_31 hE (fun v5 hE => ?_)
      refine j_istore_n (i := 3) (lv' := [(3, .int v5), (0, .ref (ad 41)), (1, .int x1), (2, .int x2)]) C dX12_house_32 rfl (by decide) rfl ?_
      refine j_aload_n C dX12_house_33 1 rfl ?_
      refine k_X12_105_X12_keep C dX12_house_34 hE (Nat.le_of_ble_eq_true rfl) (Nat.le_of_ble_eq_true rfl) (Nat.le_of_ble_eq_true rfl) (fun S6 hE => ?_)
      refine j_aload_n C dX12_house_37 1 rfl ?_
      refine g_X12_7_41 C dX12_house_38 ?_
      refine j_iload_n C dX12_house_41 2 rfl ?_
      refine j_iload_n C dX12_house_42 3 rfl ?_
      refine s_42 C dX12_house_43 hE (fun S7 hE => ?_)
      refine j_iload_n C dX12_house_44 0 rfl ?_
      exact j_iret C Q dX12_house_45 hE
    · refine j_sub [0] rfl ?_
      exact p_X12_house_19 C Q   S3 hE
theorem c_X12_house {l : Launch} {D : va_G} {ad : Nat → Nat} {cy : Nat → ClassId} (hO : jOk (jMain D ad cy)) (x1 : Int32) (x2 : Int32) (S : jS) {z : Int32 × jS} (hz : f_X12_house x1 x2 S = some z) : Met l yX12_house (.code yX12_house cX12_house 4 (some .int) :: jT) { frames := 2, cells := 0, slots := 0, locals := 45 } (va_Pc [.ref (ad 41), .int x1, .int x2] (jInv (jMain D ad cy) S)) (jQ (jMain D ad cy) (some (.int z.1), z.2)) 0 0 (yA (jMain D ad cy)) :=
  jMet hO (by decide +kernel) rfl (Nat.le_of_ble_eq_true rfl) (fun X _ C Q => p_X12_house_e C Q x1 x2 S hz)
set_option maxRecDepth 100000 in
theorem p_X11_isHouse_15 {X : jX} {D : va_G} {ad : Nat → Nat} {cy : Nat → ClassId} (C : jC X (jMain D ad cy) RX11 cX11_isHouse (some .boolean) 1 0 0) {z : Int32 × jS} (Q : jRet X (jMain D ad cy) (some (.int z.1), z.2))  (a0 : Int32) (S : jS) (hE : f_X11_isHouse_15   a0 S = some z) : jJ X (jMain D ad cy) 15 [] [.int a0] S := by
  unfold f_X11_isHouse_15 at hE
  exact j_zret C Q dX11_isHouse_15 hE
set_option maxRecDepth 100000 in
theorem p_X11_isHouse_14 {X : jX} {D : va_G} {ad : Nat → Nat} {cy : Nat → ClassId} (C : jC X (jMain D ad cy) RX11 cX11_isHouse (some .boolean) 1 0 0) {z : Int32 × jS} (Q : jRet X (jMain D ad cy) (some (.int z.1), z.2))   (S : jS) (hE : f_X11_isHouse_14    S = some z) : jJ X (jMain D ad cy) 14 [] [] S := by
  unfold f_X11_isHouse_14 at hE
  refine j_iconst (v := 0) C dX11_isHouse_14 jc_ic_0 ?_
  exact p_X11_isHouse_15 C Q  0 S hE
set_option maxRecDepth 100000 in
theorem p_X11_isHouse_e {X : jX} {D : va_G} {ad : Nat → Nat} {cy : Nat → ClassId} (C : jC X (jMain D ad cy) RX11 cX11_isHouse (some .boolean) 1 0 0) {z : Int32 × jS} (Q : jRet X (jMain D ad cy) (some (.int z.1), z.2))  (x0 : Int32) (S : jS) (hE : f_X11_isHouse_e   x0 S = some z) : jJ X (jMain D ad cy) 0 [(0, .int x0)] [] S := by
  unfold f_X11_isHouse_e at hE
  refine j_iload_n C dX11_isHouse_0 0 rfl ?_
  refine j_if_lt (tgt := 14) C dX11_isHouse_1 rfl hE (fun hE => ?_) (fun hE => ?_)
  · refine j_sub [] rfl ?_
    exact p_X11_isHouse_14 C Q   S hE
  · refine j_iload_n C dX11_isHouse_4 0 rfl ?_
    refine j_bipush (v := 8) C dX11_isHouse_5 jc_bp_8 ?_
    refine j_icmp_ge (tgt := 14) C dX11_isHouse_7 rfl hE (fun hE => ?_) (fun hE => ?_)
    · refine j_sub [] rfl ?_
      exact p_X11_isHouse_14 C Q   S hE
    · refine j_iconst (v := 1) C dX11_isHouse_10 jc_ic_1 ?_
      refine j_goto (tgt := 15) C dX11_isHouse_11 rfl ?_
      refine j_sub [] rfl ?_
      exact p_X11_isHouse_15 C Q  1 S hE
theorem c_X11_isHouse {l : Launch} {D : va_G} {ad : Nat → Nat} {cy : Nat → ClassId} (hO : jOk (jMain D ad cy)) (x0 : Int32) (S : jS) {z : Int32 × jS} (hz : f_X11_isHouse x0 S = some z) : Met l yX11_isHouse (.code yX11_isHouse cX11_isHouse 1 (some .boolean) :: jT) { frames := 0, cells := 0, slots := 0, locals := 0 } (va_Pc [.int x0] (jInv (jMain D ad cy) S)) (jQ (jMain D ad cy) (some (.int z.1), z.2)) 0 0 (yA (jMain D ad cy)) :=
  jMet hO (by decide +kernel) rfl (Nat.le_of_ble_eq_true rfl) (fun X _ C Q => p_X11_isHouse_e C Q x0 S hz)
theorem k_X11_92_X11_isHouse {X : jX} {D : va_G} {ad : Nat → Nat} {cy : Nat → ClassId} {cc : ByteArray} {ret : Option FieldType} {nL fr lo pc : Nat} {lv : List (Nat × Value)} {st : List Value} {S : jS} {β : Type} {z : β} (C : jC X (jMain D ad cy) RX11 cc ret nL fr lo) {a0 : Int32} {E : Int32 → jS → Option β} (d : decode cc pc = .ok (.invokestatic 92, 3)) (hE : jcl (f_X11_isHouse a0 S) E = some z) (hfr : 1 ≤ fr) (hlo : 20 ≤ lo) (hst : (st.map fun v => v.category).sum ≤ 8) (K : ∀ (v : Int32) (S1 : jS), E v S1 = some z → jJ X (jMain D ad cy) (pc + 3) lv (.int v :: st) S1) : jJ X (jMain D ad cy) pc lv (.int a0 :: st) S := by
  obtain ⟨v, h1, h2⟩ := jcl_some hE
  exact j_callS (n := 1) (As := [.int a0]) C (c_X11_isHouse C.2.2.2.2.2.2.1 a0 S h1) tw_372 tw_373 tw_69 tw_374 (by decide +kernel) rfl hfr hlo hst rfl d (K _ _ h2)
theorem k_X7_62_X11_isHouse {X : jX} {D : va_G} {ad : Nat → Nat} {cy : Nat → ClassId} {cc : ByteArray} {ret : Option FieldType} {nL fr lo pc : Nat} {lv : List (Nat × Value)} {st : List Value} {S : jS} {β : Type} {z : β} (C : jC X (jMain D ad cy) RX7 cc ret nL fr lo) {a0 : Int32} {E : Int32 → jS → Option β} (d : decode cc pc = .ok (.invokestatic 62, 3)) (hE : jcl (f_X11_isHouse a0 S) E = some z) (hfr : 1 ≤ fr) (hlo : 20 ≤ lo) (hst : (st.map fun v => v.category).sum ≤ 8) (K : ∀ (v : Int32) (S1 : jS), E v S1 = some z → jJ X (jMain D ad cy) (pc + 3) lv (.int v :: st) S1) : jJ X (jMain D ad cy) pc lv (.int a0 :: st) S := by
  obtain ⟨v, h1, h2⟩ := jcl_some hE
  exact j_callSN (n := 1) (As := [.int a0]) C (c_X11_isHouse C.2.2.2.2.2.2.1 a0 S h1) C.2.2.2.2.2.2.2.2.2.2.2.2.2.2.2.1 tw_373 tw_69 tw_374 (by decide +kernel) rfl hfr hlo hst rfl d (K _ _ h2)
set_option maxRecDepth 100000 in
theorem p_X11_house_18 {X : jX} {D : va_G} {ad : Nat → Nat} {cy : Nat → ClassId} (C : jC X (jMain D ad cy) RX11 cX11_house (some .int) 4 2 69) {z : Int32 × jS} (Q : jRet X (jMain D ad cy) (some (.int z.1), z.2))   (S : jS) (hE : f_X11_house_18    S = some z) : jJ X (jMain D ad cy) 18 [(0, .ref (ad 0))] [] S := by
  unfold f_X11_house_18 at hE
  refine j_aload_n C dX11_house_18 0 rfl ?_
  refine k_X11_74_X11_refuseBad C dX11_house_19 hE (Nat.le_of_ble_eq_true rfl) (Nat.le_of_ble_eq_true rfl) (Nat.le_of_ble_eq_true rfl) (fun v2 S1 hE => ?_)
  exact j_iret C Q dX11_house_22 hE
set_option maxRecDepth 100000 in
theorem p_X11_house_e {X : jX} {D : va_G} {ad : Nat → Nat} {cy : Nat → ClassId} (C : jC X (jMain D ad cy) RX11 cX11_house (some .int) 4 2 69) {z : Int32 × jS} (Q : jRet X (jMain D ad cy) (some (.int z.1), z.2))  (x1 : Int32) (x2 : Int32) (S : jS) (hE : f_X11_house_e   x1 x2 S = some z) : jJ X (jMain D ad cy) 0 [(0, .ref (ad 0)), (1, .int x1), (2, .int x2)] [] S := by
  unfold f_X11_house_e at hE
  refine j_iload_n C dX11_house_0 1 rfl ?_
  refine k_X11_92_X11_isHouse C dX11_house_1 hE (Nat.le_of_ble_eq_true rfl) (Nat.le_of_ble_eq_true rfl) (Nat.le_of_ble_eq_true rfl) (fun v2 S1 hE => ?_)
  refine j_if_eq (tgt := 18) C dX11_house_4 rfl hE (fun hE => ?_) (fun hE => ?_)
  · refine j_sub [0] rfl ?_
    exact p_X11_house_18 C Q   S1 hE
  · refine j_iload_n C dX11_house_7 2 rfl ?_
    refine j_if_lt (tgt := 18) C dX11_house_8 rfl hE (fun hE => ?_) (fun hE => ?_)
    · refine j_sub [0] rfl ?_
      exact p_X11_house_18 C Q   S1 hE
    · refine j_iload_n C dX11_house_11 2 rfl ?_
      refine j_sipush (v := 300) C dX11_house_12 jc_sp_300 ?_
      refine j_icmp_le (tgt := 23) C dX11_house_15 rfl hE (fun hE => ?_) (fun hE => ?_)
      · refine j_aload_n C dX11_house_23 0 rfl ?_
        refine g_X11_44_0 C dX11_house_24 ?_
        refine g_X11_96_21 C dX11_house_27 ?_
        refine j_iload_n C dX11_house_30 1 rfl ?_
        refine l_22 C dX11_house_31 hE (fun v3 hE => ?_)
        refine j_istore_n (i := 3) (lv' := [(3, .int v3), (0, .ref (ad 0)), (1, .int x1), (2, .int x2)]) C dX11_house_32 rfl (by decide) rfl ?_
        refine j_aload_n C dX11_house_33 1 rfl ?_
        refine g_X11_44_0 C dX11_house_34 ?_
        refine k_X11_89_X10_remember C dX11_house_37 hE (Nat.le_of_ble_eq_true rfl) (Nat.le_of_ble_eq_true rfl) (Nat.le_of_ble_eq_true rfl) (fun S4 hE => ?_)
        refine j_aload_n C dX11_house_40 1 rfl ?_
        refine g_X11_44_0 C dX11_house_41 ?_
        refine g_X11_96_21 C dX11_house_44 ?_
        refine j_iload_n C dX11_house_47 2 rfl ?_
        refine j_iload_n C dX11_house_48 3 rfl ?_
        refine s_22 C dX11_house_49 hE (fun S5 hE => ?_)
        refine j_iload_n C dX11_house_50 0 rfl ?_
        exact j_iret C Q dX11_house_51 hE
      · refine j_sub [0] rfl ?_
        exact p_X11_house_18 C Q   S1 hE
theorem c_X11_house {l : Launch} {D : va_G} {ad : Nat → Nat} {cy : Nat → ClassId} (hO : jOk (jMain D ad cy)) (x1 : Int32) (x2 : Int32) (S : jS) {z : Int32 × jS} (hz : f_X11_house x1 x2 S = some z) : Met l yX11_house (.code yX11_house cX11_house 4 (some .int) :: jT) { frames := 2, cells := 0, slots := 0, locals := 69 } (va_Pc [.ref (ad 0), .int x1, .int x2] (jInv (jMain D ad cy) S)) (jQ (jMain D ad cy) (some (.int z.1), z.2)) 0 0 (yA (jMain D ad cy)) :=
  jMet hO (by decide +kernel) rfl (Nat.le_of_ble_eq_true rfl) (fun X _ C Q => p_X11_house_e C Q x1 x2 S hz)
set_option maxRecDepth 100000 in
theorem p_X12_no_e {X : jX} {D : va_G} {ad : Nat → Nat} {cy : Nat → ClassId} (C : jC X (jMain D ad cy) RX12 cX12_no (some .int) 1 0 0) {z : Int32 × jS} (Q : jRet X (jMain D ad cy) (some (.int z.1), z.2))   (S : jS) (hE : f_X12_no_e    S = some z) : jJ X (jMain D ad cy) 0 [(0, .ref (ad 41))] [] S := by
  unfold f_X12_no_e at hE
  refine j_aload_n C dX12_no_0 0 rfl ?_
  refine g_X12_20_41 C dX12_no_1 ?_
  refine j_iconst (v := 1) C dX12_no_4 jc_ic_1 ?_
  refine j_dup2 C dX12_no_5 rfl rfl ?_
  refine l_45 C dX12_no_6 hE (fun v1 hE => ?_)
  refine j_iconst (v := 1) C dX12_no_7 jc_ic_1 ?_
  refine j_iadd C dX12_no_8 ?_
  refine s_45 C dX12_no_9 hE (fun S2 hE => ?_)
  refine j_bipush (v := (-3)) C dX12_no_10 jc_bp_m3 ?_
  exact j_iret C Q dX12_no_12 hE
theorem c_X12_no {l : Launch} {D : va_G} {ad : Nat → Nat} {cy : Nat → ClassId} (hO : jOk (jMain D ad cy))  (S : jS) {z : Int32 × jS} (hz : f_X12_no  S = some z) : Met l yX12_no (.code yX12_no cX12_no 1 (some .int) :: jT) { frames := 0, cells := 0, slots := 0, locals := 0 } (va_Pc [.ref (ad 41)] (jInv (jMain D ad cy) S)) (jQ (jMain D ad cy) (some (.int z.1), z.2)) 0 0 (yA (jMain D ad cy)) :=
  jMet hO (by decide +kernel) rfl (Nat.le_of_ble_eq_true rfl) (fun X _ C Q => p_X12_no_e C Q  S hz)
theorem k_X12_111_X12_no {X : jX} {D : va_G} {ad : Nat → Nat} {cy : Nat → ClassId} {cc : ByteArray} {ret : Option FieldType} {nL fr lo pc : Nat} {lv : List (Nat × Value)} {st : List Value} {S : jS} {β : Type} {z : β} (C : jC X (jMain D ad cy) RX12 cc ret nL fr lo)  {E : Int32 → jS → Option β} (d : decode cc pc = .ok (.invokevirtual 111, 3)) (hE : jcl (f_X12_no  S) E = some z) (hfr : 1 ≤ fr) (hlo : 20 ≤ lo) (hst : (st.map fun v => v.category).sum ≤ 8) (K : ∀ (v : Int32) (S1 : jS), E v S1 = some z → jJ X (jMain D ad cy) (pc + 3) lv (.int v :: st) S1) : jJ X (jMain D ad cy) pc lv (.ref (ad 41) :: st) S := by
  obtain ⟨v, h1, h2⟩ := jcl_some hE
  exact j_callV (k := 41) (ci := 12) (T := TX12) (N := 25) (n := 0) (As := []) C (c_X12_no C.2.2.2.2.2.2.1  S h1) tw_1000 tw_1002 tw_36 tw_81 tw_1003 (by decide +kernel) rfl (by decide : 41 < 56) rfl rfl hfr hlo hst rfl d (K _ _ h2)
set_option maxRecDepth 100000 in
theorem p_X12_birthday_35 {X : jX} {D : va_G} {ad : Nat → Nat} {cy : Nat → ClassId} (C : jC X (jMain D ad cy) RX12 cX12_birthday (some .int) 2 2 45) {z : Int32 × jS} (Q : jRet X (jMain D ad cy) (some (.int z.1), z.2))   (S : jS) (hE : f_X12_birthday_35    S = some z) : jJ X (jMain D ad cy) 35 [(0, .ref (ad 41))] [] S := by
  unfold f_X12_birthday_35 at hE
  refine j_aload_n C dX12_birthday_35 0 rfl ?_
  refine k_X12_111_X12_no C dX12_birthday_36 hE (Nat.le_of_ble_eq_true rfl) (Nat.le_of_ble_eq_true rfl) (Nat.le_of_ble_eq_true rfl) (fun v2 S1 hE => ?_)
  exact j_iret C Q dX12_birthday_39 hE
set_option maxRecDepth 100000 in
theorem p_X12_birthday_e {X : jX} {D : va_G} {ad : Nat → Nat} {cy : Nat → ClassId} (C : jC X (jMain D ad cy) RX12 cX12_birthday (some .int) 2 2 45) {z : Int32 × jS} (Q : jRet X (jMain D ad cy) (some (.int z.1), z.2))  (x1 : Int32) (S : jS) (hE : f_X12_birthday_e   x1 S = some z) : jJ X (jMain D ad cy) 0 [(0, .ref (ad 41)), (1, .int x1)] [] S := by
  unfold f_X12_birthday_e at hE
  refine j_iload_n C dX12_birthday_0 1 rfl ?_
  refine k_X12_108_X12_isHouse C dX12_birthday_1 hE (Nat.le_of_ble_eq_true rfl) (Nat.le_of_ble_eq_true rfl) (Nat.le_of_ble_eq_true rfl) (fun v2 S1 hE => ?_)
  refine j_if_ne (tgt := 14) C dX12_birthday_4 rfl hE (fun hE => ?_) (fun hE => ?_)
  · refine j_aload_n C dX12_birthday_14 0 rfl ?_
    refine g_X12_7_41 C dX12_birthday_15 ?_
    refine j_iload_n C dX12_birthday_18 1 rfl ?_
    refine l_42 C dX12_birthday_19 hE (fun v3 hE => ?_)
    refine j_if_eq (tgt := 35) C dX12_birthday_20 rfl hE (fun hE => ?_) (fun hE => ?_)
    · refine j_sub [0] rfl ?_
      exact p_X12_birthday_35 C Q   S1 hE
    · refine j_aload_n C dX12_birthday_23 0 rfl ?_
      refine g_X12_7_41 C dX12_birthday_24 ?_
      refine j_iload_n C dX12_birthday_27 1 rfl ?_
      refine l_42 C dX12_birthday_28 hE (fun v4 hE => ?_)
      refine j_sipush (v := 300) C dX12_birthday_29 jc_sp_300 ?_
      refine j_icmp_ne (tgt := 40) C dX12_birthday_32 rfl hE (fun hE => ?_) (fun hE => ?_)
      · refine j_aload_n C dX12_birthday_40 0 rfl ?_
        refine k_X12_105_X12_keep C dX12_birthday_41 hE (Nat.le_of_ble_eq_true rfl) (Nat.le_of_ble_eq_true rfl) (Nat.le_of_ble_eq_true rfl) (fun S5 hE => ?_)
        refine j_aload_n C dX12_birthday_44 0 rfl ?_
        refine g_X12_7_41 C dX12_birthday_45 ?_
        refine j_iload_n C dX12_birthday_48 1 rfl ?_
        refine j_dup2 C dX12_birthday_49 rfl rfl ?_
        refine l_42 C dX12_birthday_50 hE (fun v6 hE => ?_)
        refine j_iconst (v := 1) C dX12_birthday_51 jc_ic_1 ?_
        refine j_iadd C dX12_birthday_52 ?_
        refine s_42 C dX12_birthday_53 hE (fun S7 hE => ?_)
        refine j_aload_n C dX12_birthday_54 0 rfl ?_
        refine g_X12_7_41 C dX12_birthday_55 ?_
        refine j_iload_n C dX12_birthday_58 1 rfl ?_
        refine l_42 C dX12_birthday_59 hE (fun v8 hE => ?_)
        exact j_iret C Q dX12_birthday_60 hE
      · refine j_sub [0] rfl ?_
        exact p_X12_birthday_35 C Q   S1 hE
  · refine j_aload_n C dX12_birthday_7 0 rfl ?_
    refine j_bipush (v := (-2)) C dX12_birthday_8 jc_bp_m2 ?_
    refine k_X12_87_X12_bad C dX12_birthday_10 hE (Nat.le_of_ble_eq_true rfl) (Nat.le_of_ble_eq_true rfl) (Nat.le_of_ble_eq_true rfl) (fun v10 S9 hE => ?_)
    exact j_iret C Q dX12_birthday_13 hE
theorem c_X12_birthday {l : Launch} {D : va_G} {ad : Nat → Nat} {cy : Nat → ClassId} (hO : jOk (jMain D ad cy)) (x1 : Int32) (S : jS) {z : Int32 × jS} (hz : f_X12_birthday x1 S = some z) : Met l yX12_birthday (.code yX12_birthday cX12_birthday 2 (some .int) :: jT) { frames := 2, cells := 0, slots := 0, locals := 45 } (va_Pc [.ref (ad 41), .int x1] (jInv (jMain D ad cy) S)) (jQ (jMain D ad cy) (some (.int z.1), z.2)) 0 0 (yA (jMain D ad cy)) :=
  jMet hO (by decide +kernel) rfl (Nat.le_of_ble_eq_true rfl) (fun X _ C Q => p_X12_birthday_e C Q x1 S hz)
set_option maxRecDepth 100000 in
theorem p_X11_refuseNo_e {X : jX} {D : va_G} {ad : Nat → Nat} {cy : Nat → ClassId} (C : jC X (jMain D ad cy) RX11 cX11_refuseNo (some .int) 1 0 0) {z : Int32 × jS} (Q : jRet X (jMain D ad cy) (some (.int z.1), z.2))   (S : jS) (hE : f_X11_refuseNo_e    S = some z) : jJ X (jMain D ad cy) 0 [(0, .ref (ad 0))] [] S := by
  unfold f_X11_refuseNo_e at hE
  refine j_aload_n C dX11_refuseNo_0 0 rfl ?_
  refine j_dup C dX11_refuseNo_1 rfl ?_
  refine g_X11_276_0 C dX11_refuseNo_2 ?_
  refine j_iconst (v := 1) C dX11_refuseNo_5 jc_ic_1 ?_
  refine j_iadd C dX11_refuseNo_6 ?_
  refine p_X11_276_0 C dX11_refuseNo_7 hE (fun S1 hE => ?_)
  refine j_bipush (v := (-3)) C dX11_refuseNo_10 jc_bp_m3 ?_
  exact j_iret C Q dX11_refuseNo_12 hE
theorem c_X11_refuseNo {l : Launch} {D : va_G} {ad : Nat → Nat} {cy : Nat → ClassId} (hO : jOk (jMain D ad cy))  (S : jS) {z : Int32 × jS} (hz : f_X11_refuseNo  S = some z) : Met l yX11_refuseNo (.code yX11_refuseNo cX11_refuseNo 1 (some .int) :: jT) { frames := 0, cells := 0, slots := 0, locals := 0 } (va_Pc [.ref (ad 0)] (jInv (jMain D ad cy) S)) (jQ (jMain D ad cy) (some (.int z.1), z.2)) 0 0 (yA (jMain D ad cy)) :=
  jMet hO (by decide +kernel) rfl (Nat.le_of_ble_eq_true rfl) (fun X _ C Q => p_X11_refuseNo_e C Q  S hz)
theorem k_X11_99_X11_refuseNo {X : jX} {D : va_G} {ad : Nat → Nat} {cy : Nat → ClassId} {cc : ByteArray} {ret : Option FieldType} {nL fr lo pc : Nat} {lv : List (Nat × Value)} {st : List Value} {S : jS} {β : Type} {z : β} (C : jC X (jMain D ad cy) RX11 cc ret nL fr lo)  {E : Int32 → jS → Option β} (d : decode cc pc = .ok (.invokevirtual 99, 3)) (hE : jcl (f_X11_refuseNo  S) E = some z) (hfr : 1 ≤ fr) (hlo : 20 ≤ lo) (hst : (st.map fun v => v.category).sum ≤ 8) (K : ∀ (v : Int32) (S1 : jS), E v S1 = some z → jJ X (jMain D ad cy) (pc + 3) lv (.int v :: st) S1) : jJ X (jMain D ad cy) pc lv (.ref (ad 0) :: st) S := by
  obtain ⟨v, h1, h2⟩ := jcl_some hE
  exact j_callV (k := 0) (ci := 11) (T := TX11) (N := 16) (n := 0) (As := []) C (c_X11_refuseNo C.2.2.2.2.2.2.1  S h1) tw_379 tw_381 tw_1 tw_69 tw_382 (by decide +kernel) rfl (by decide : 0 < 56) rfl rfl hfr hlo hst rfl d (K _ _ h2)
set_option maxRecDepth 100000 in
theorem p_X11_birthday_33 {X : jX} {D : va_G} {ad : Nat → Nat} {cy : Nat → ClassId} (C : jC X (jMain D ad cy) RX11 cX11_birthday (some .int) 3 2 69) {z : Int32 × jS} (Q : jRet X (jMain D ad cy) (some (.int z.1), z.2))   (S : jS) (hE : f_X11_birthday_33    S = some z) : jJ X (jMain D ad cy) 33 [(0, .ref (ad 0))] [] S := by
  unfold f_X11_birthday_33 at hE
  refine j_aload_n C dX11_birthday_33 0 rfl ?_
  refine k_X11_99_X11_refuseNo C dX11_birthday_34 hE (Nat.le_of_ble_eq_true rfl) (Nat.le_of_ble_eq_true rfl) (Nat.le_of_ble_eq_true rfl) (fun v2 S1 hE => ?_)
  exact j_iret C Q dX11_birthday_37 hE
set_option maxRecDepth 100000 in
theorem p_X11_birthday_e {X : jX} {D : va_G} {ad : Nat → Nat} {cy : Nat → ClassId} (C : jC X (jMain D ad cy) RX11 cX11_birthday (some .int) 3 2 69) {z : Int32 × jS} (Q : jRet X (jMain D ad cy) (some (.int z.1), z.2))  (x1 : Int32) (S : jS) (hE : f_X11_birthday_e   x1 S = some z) : jJ X (jMain D ad cy) 0 [(0, .ref (ad 0)), (1, .int x1)] [] S := by
  unfold f_X11_birthday_e at hE
  refine j_iload_n C dX11_birthday_0 1 rfl ?_
  refine k_X11_92_X11_isHouse C dX11_birthday_1 hE (Nat.le_of_ble_eq_true rfl) (Nat.le_of_ble_eq_true rfl) (Nat.le_of_ble_eq_true rfl) (fun v2 S1 hE => ?_)
  refine j_if_ne (tgt := 12) C dX11_birthday_4 rfl hE (fun hE => ?_) (fun hE => ?_)
  · refine j_aload_n C dX11_birthday_12 0 rfl ?_
    refine g_X11_44_0 C dX11_birthday_13 ?_
    refine g_X11_96_21 C dX11_birthday_16 ?_
    refine j_iload_n C dX11_birthday_19 1 rfl ?_
    refine l_22 C dX11_birthday_20 hE (fun v3 hE => ?_)
    refine j_istore_n (i := 2) (lv' := [(2, .int v3), (0, .ref (ad 0)), (1, .int x1)]) C dX11_birthday_21 rfl (by decide) rfl ?_
    refine j_iload_n C dX11_birthday_22 0 rfl ?_
    refine j_if_eq (tgt := 33) C dX11_birthday_23 rfl hE (fun hE => ?_) (fun hE => ?_)
    · refine j_sub [1] rfl ?_
      exact p_X11_birthday_33 C Q   S1 hE
    · refine j_iload_n C dX11_birthday_26 0 rfl ?_
      refine j_sipush (v := 300) C dX11_birthday_27 jc_sp_300 ?_
      refine j_icmp_lt (tgt := 38) C dX11_birthday_30 rfl hE (fun hE => ?_) (fun hE => ?_)
      · refine j_aload_n C dX11_birthday_38 1 rfl ?_
        refine g_X11_44_0 C dX11_birthday_39 ?_
        refine k_X11_89_X10_remember C dX11_birthday_42 hE (Nat.le_of_ble_eq_true rfl) (Nat.le_of_ble_eq_true rfl) (Nat.le_of_ble_eq_true rfl) (fun S4 hE => ?_)
        refine j_aload_n C dX11_birthday_45 1 rfl ?_
        refine g_X11_44_0 C dX11_birthday_46 ?_
        refine g_X11_96_21 C dX11_birthday_49 ?_
        refine j_iload_n C dX11_birthday_52 2 rfl ?_
        refine j_iload_n C dX11_birthday_53 0 rfl ?_
        refine j_iconst (v := 1) C dX11_birthday_54 jc_ic_1 ?_
        refine j_iadd C dX11_birthday_55 ?_
        refine s_22 C dX11_birthday_56 hE (fun S5 hE => ?_)
        refine j_iload_n C dX11_birthday_57 0 rfl ?_
        refine j_iconst (v := 1) C dX11_birthday_58 jc_ic_1 ?_
        refine j_iadd C dX11_birthday_59 ?_
        exact j_iret C Q dX11_birthday_60 hE
      · refine j_sub [1] rfl ?_
        exact p_X11_birthday_33 C Q   S1 hE
  · refine j_aload_n C dX11_birthday_7 0 rfl ?_
    refine k_X11_74_X11_refuseBad C dX11_birthday_8 hE (Nat.le_of_ble_eq_true rfl) (Nat.le_of_ble_eq_true rfl) (Nat.le_of_ble_eq_true rfl) (fun v7 S6 hE => ?_)
    exact j_iret C Q dX11_birthday_11 hE
theorem c_X11_birthday {l : Launch} {D : va_G} {ad : Nat → Nat} {cy : Nat → ClassId} (hO : jOk (jMain D ad cy)) (x1 : Int32) (S : jS) {z : Int32 × jS} (hz : f_X11_birthday x1 S = some z) : Met l yX11_birthday (.code yX11_birthday cX11_birthday 3 (some .int) :: jT) { frames := 2, cells := 0, slots := 0, locals := 69 } (va_Pc [.ref (ad 0), .int x1] (jInv (jMain D ad cy) S)) (jQ (jMain D ad cy) (some (.int z.1), z.2)) 0 0 (yA (jMain D ad cy)) :=
  jMet hO (by decide +kernel) rfl (Nat.le_of_ble_eq_true rfl) (fun X _ C Q => p_X11_birthday_e C Q x1 S hz)
set_option maxRecDepth 100000 in
theorem p_X12_swap_19 {X : jX} {D : va_G} {ad : Nat → Nat} {cy : Nat → ClassId} (C : jC X (jMain D ad cy) RX12 cX12_swap (some .int) 4 2 45) {z : Int32 × jS} (Q : jRet X (jMain D ad cy) (some (.int z.1), z.2))   (S : jS) (hE : f_X12_swap_19    S = some z) : jJ X (jMain D ad cy) 19 [(0, .ref (ad 41))] [] S := by
  unfold f_X12_swap_19 at hE
  refine j_aload_n C dX12_swap_19 0 rfl ?_
  refine j_bipush (v := (-2)) C dX12_swap_20 jc_bp_m2 ?_
  refine k_X12_87_X12_bad C dX12_swap_22 hE (Nat.le_of_ble_eq_true rfl) (Nat.le_of_ble_eq_true rfl) (Nat.le_of_ble_eq_true rfl) (fun v2 S1 hE => ?_)
  exact j_iret C Q dX12_swap_25 hE
set_option maxRecDepth 100000 in
theorem p_X12_swap_49 {X : jX} {D : va_G} {ad : Nat → Nat} {cy : Nat → ClassId} (C : jC X (jMain D ad cy) RX12 cX12_swap (some .int) 4 2 45) {z : Int32 × jS} (Q : jRet X (jMain D ad cy) (some (.int z.1), z.2))  (x1 : Int32) (x2 : Int32) (S : jS) (hE : f_X12_swap_49   x1 x2 S = some z) : jJ X (jMain D ad cy) 49 [(0, .ref (ad 41)), (1, .int x1), (2, .int x2)] [] S := by
  unfold f_X12_swap_49 at hE
  refine j_aload_n C dX12_swap_49 0 rfl ?_
  refine k_X12_105_X12_keep C dX12_swap_50 hE (Nat.le_of_ble_eq_true rfl) (Nat.le_of_ble_eq_true rfl) (Nat.le_of_ble_eq_true rfl) (fun S1 hE => ?_)
  refine j_aload_n C dX12_swap_53 0 rfl ?_
  refine g_X12_7_41 C dX12_swap_54 ?_
  refine j_iload_n C dX12_swap_57 1 rfl ?_
  refine l_42 C dX12_swap_58 hE (fun v2 hE => ?_)
  refine j_istore_n (i := 3) (lv' := [(3, .int v2), (0, .ref (ad 41)), (1, .int x1), (2, .int x2)]) C dX12_swap_59 rfl (by decide) rfl ?_
  refine j_aload_n C dX12_swap_60 1 rfl ?_
  refine g_X12_7_41 C dX12_swap_61 ?_
  refine j_iload_n C dX12_swap_64 2 rfl ?_
  refine j_aload_n C dX12_swap_65 1 rfl ?_
  refine g_X12_7_41 C dX12_swap_66 ?_
  refine j_iload_n C dX12_swap_69 3 rfl ?_
  refine l_42 C dX12_swap_70 hE (fun v3 hE => ?_)
  refine s_42 C dX12_swap_71 hE (fun S4 hE => ?_)
  refine j_aload_n C dX12_swap_72 1 rfl ?_
  refine g_X12_7_41 C dX12_swap_73 ?_
  refine j_iload_n C dX12_swap_76 3 rfl ?_
  refine j_iload_n C dX12_swap_77 0 rfl ?_
  refine s_42 C dX12_swap_78 hE (fun S5 hE => ?_)
  refine j_iconst (v := 1) C dX12_swap_79 jc_ic_1 ?_
  exact j_iret C Q dX12_swap_80 hE
set_option maxRecDepth 100000 in
theorem p_X12_swap_e {X : jX} {D : va_G} {ad : Nat → Nat} {cy : Nat → ClassId} (C : jC X (jMain D ad cy) RX12 cX12_swap (some .int) 4 2 45) {z : Int32 × jS} (Q : jRet X (jMain D ad cy) (some (.int z.1), z.2))  (x1 : Int32) (x2 : Int32) (S : jS) (hE : f_X12_swap_e   x1 x2 S = some z) : jJ X (jMain D ad cy) 0 [(0, .ref (ad 41)), (1, .int x1), (2, .int x2)] [] S := by
  unfold f_X12_swap_e at hE
  refine j_iload_n C dX12_swap_0 1 rfl ?_
  refine k_X12_108_X12_isHouse C dX12_swap_1 hE (Nat.le_of_ble_eq_true rfl) (Nat.le_of_ble_eq_true rfl) (Nat.le_of_ble_eq_true rfl) (fun v2 S1 hE => ?_)
  refine j_if_eq (tgt := 19) C dX12_swap_4 rfl hE (fun hE => ?_) (fun hE => ?_)
  · refine j_sub [0] rfl ?_
    exact p_X12_swap_19 C Q   S1 hE
  · refine j_iload_n C dX12_swap_7 2 rfl ?_
    refine k_X12_108_X12_isHouse C dX12_swap_8 hE (Nat.le_of_ble_eq_true rfl) (Nat.le_of_ble_eq_true rfl) (Nat.le_of_ble_eq_true rfl) (fun v4 S3 hE => ?_)
    refine j_if_eq (tgt := 19) C dX12_swap_11 rfl hE (fun hE => ?_) (fun hE => ?_)
    · refine j_sub [0] rfl ?_
      exact p_X12_swap_19 C Q   S3 hE
    · refine j_iload_n C dX12_swap_14 1 rfl ?_
      refine j_iload_n C dX12_swap_15 2 rfl ?_
      refine j_icmp_ne (tgt := 26) C dX12_swap_16 rfl hE (fun hE => ?_) (fun hE => ?_)
      · refine j_aload_n C dX12_swap_26 0 rfl ?_
        refine g_X12_7_41 C dX12_swap_27 ?_
        refine j_iload_n C dX12_swap_30 1 rfl ?_
        refine l_42 C dX12_swap_31 hE (fun v5 hE => ?_)
        refine j_if_ne (tgt := 49) C dX12_swap_32 rfl hE (fun hE => ?_) (fun hE => ?_)
        · exact p_X12_swap_49 C Q  x1 x2 S3 hE
        · refine j_aload_n C dX12_swap_35 0 rfl ?_
          refine g_X12_7_41 C dX12_swap_36 ?_
          refine j_iload_n C dX12_swap_39 2 rfl ?_
          refine l_42 C dX12_swap_40 hE (fun v6 hE => ?_)
          refine j_if_ne (tgt := 49) C dX12_swap_41 rfl hE (fun hE => ?_) (fun hE => ?_)
          · exact p_X12_swap_49 C Q  x1 x2 S3 hE
          · refine j_aload_n C dX12_swap_44 0 rfl ?_
            refine k_X12_111_X12_no C dX12_swap_45 hE (Nat.le_of_ble_eq_true rfl) (Nat.le_of_ble_eq_true rfl) (Nat.le_of_ble_eq_true rfl) (fun v8 S7 hE => ?_)
            exact j_iret C Q dX12_swap_48 hE
      · refine j_sub [0] rfl ?_
        exact p_X12_swap_19 C Q   S3 hE
theorem c_X12_swap {l : Launch} {D : va_G} {ad : Nat → Nat} {cy : Nat → ClassId} (hO : jOk (jMain D ad cy)) (x1 : Int32) (x2 : Int32) (S : jS) {z : Int32 × jS} (hz : f_X12_swap x1 x2 S = some z) : Met l yX12_swap (.code yX12_swap cX12_swap 4 (some .int) :: jT) { frames := 2, cells := 0, slots := 0, locals := 45 } (va_Pc [.ref (ad 41), .int x1, .int x2] (jInv (jMain D ad cy) S)) (jQ (jMain D ad cy) (some (.int z.1), z.2)) 0 0 (yA (jMain D ad cy)) :=
  jMet hO (by decide +kernel) rfl (Nat.le_of_ble_eq_true rfl) (fun X _ C Q => p_X12_swap_e C Q x1 x2 S hz)
set_option maxRecDepth 100000 in
theorem p_X11_swap_19 {X : jX} {D : va_G} {ad : Nat → Nat} {cy : Nat → ClassId} (C : jC X (jMain D ad cy) RX11 cX11_swap (some .int) 5 2 69) {z : Int32 × jS} (Q : jRet X (jMain D ad cy) (some (.int z.1), z.2))   (S : jS) (hE : f_X11_swap_19    S = some z) : jJ X (jMain D ad cy) 19 [(0, .ref (ad 0))] [] S := by
  unfold f_X11_swap_19 at hE
  refine j_aload_n C dX11_swap_19 0 rfl ?_
  refine k_X11_74_X11_refuseBad C dX11_swap_20 hE (Nat.le_of_ble_eq_true rfl) (Nat.le_of_ble_eq_true rfl) (Nat.le_of_ble_eq_true rfl) (fun v2 S1 hE => ?_)
  exact j_iret C Q dX11_swap_23 hE
set_option maxRecDepth 100000 in
theorem p_X11_swap_59 {X : jX} {D : va_G} {ad : Nat → Nat} {cy : Nat → ClassId} (C : jC X (jMain D ad cy) RX11 cX11_swap (some .int) 5 2 69) {z : Int32 × jS} (Q : jRet X (jMain D ad cy) (some (.int z.1), z.2))  (x1 : Int32) (x2 : Int32) (x3 : Int32) (x4 : Int32) (S : jS) (hE : f_X11_swap_59   x1 x2 x3 x4 S = some z) : jJ X (jMain D ad cy) 59 [(0, .ref (ad 0)), (1, .int x1), (2, .int x2), (3, .int x3), (4, .int x4)] [] S := by
  unfold f_X11_swap_59 at hE
  refine j_aload_n C dX11_swap_59 0 rfl ?_
  refine g_X11_44_0 C dX11_swap_60 ?_
  refine k_X11_89_X10_remember C dX11_swap_63 hE (Nat.le_of_ble_eq_true rfl) (Nat.le_of_ble_eq_true rfl) (Nat.le_of_ble_eq_true rfl) (fun S1 hE => ?_)
  refine j_aload_n C dX11_swap_66 0 rfl ?_
  refine g_X11_44_0 C dX11_swap_67 ?_
  refine g_X11_96_21 C dX11_swap_70 ?_
  refine j_iload_n C dX11_swap_73 1 rfl ?_
  refine j_iload C dX11_swap_74 4 rfl ?_
  refine s_22 C dX11_swap_76 hE (fun S2 hE => ?_)
  refine j_aload_n C dX11_swap_77 0 rfl ?_
  refine g_X11_44_0 C dX11_swap_78 ?_
  refine g_X11_96_21 C dX11_swap_81 ?_
  refine j_iload_n C dX11_swap_84 2 rfl ?_
  refine j_iload_n C dX11_swap_85 3 rfl ?_
  refine s_22 C dX11_swap_86 hE (fun S3 hE => ?_)
  refine j_iconst (v := 1) C dX11_swap_87 jc_ic_1 ?_
  exact j_iret C Q dX11_swap_88 hE
set_option maxRecDepth 100000 in
theorem p_X11_swap_e {X : jX} {D : va_G} {ad : Nat → Nat} {cy : Nat → ClassId} (C : jC X (jMain D ad cy) RX11 cX11_swap (some .int) 5 2 69) {z : Int32 × jS} (Q : jRet X (jMain D ad cy) (some (.int z.1), z.2))  (x1 : Int32) (x2 : Int32) (S : jS) (hE : f_X11_swap_e   x1 x2 S = some z) : jJ X (jMain D ad cy) 0 [(0, .ref (ad 0)), (1, .int x1), (2, .int x2)] [] S := by
  unfold f_X11_swap_e at hE
  refine j_iload_n C dX11_swap_0 1 rfl ?_
  refine k_X11_92_X11_isHouse C dX11_swap_1 hE (Nat.le_of_ble_eq_true rfl) (Nat.le_of_ble_eq_true rfl) (Nat.le_of_ble_eq_true rfl) (fun v2 S1 hE => ?_)
  refine j_if_eq (tgt := 19) C dX11_swap_4 rfl hE (fun hE => ?_) (fun hE => ?_)
  · refine j_sub [0] rfl ?_
    exact p_X11_swap_19 C Q   S1 hE
  · refine j_iload_n C dX11_swap_7 2 rfl ?_
    refine k_X11_92_X11_isHouse C dX11_swap_8 hE (Nat.le_of_ble_eq_true rfl) (Nat.le_of_ble_eq_true rfl) (Nat.le_of_ble_eq_true rfl) (fun v4 S3 hE => ?_)
    refine j_if_eq (tgt := 19) C dX11_swap_11 rfl hE (fun hE => ?_) (fun hE => ?_)
    · refine j_sub [0] rfl ?_
      exact p_X11_swap_19 C Q   S3 hE
    · refine j_iload_n C dX11_swap_14 1 rfl ?_
      refine j_iload_n C dX11_swap_15 2 rfl ?_
      refine j_icmp_ne (tgt := 24) C dX11_swap_16 rfl hE (fun hE => ?_) (fun hE => ?_)
      · refine j_aload_n C dX11_swap_24 0 rfl ?_
        refine g_X11_44_0 C dX11_swap_25 ?_
        refine g_X11_96_21 C dX11_swap_28 ?_
        refine j_iload_n C dX11_swap_31 1 rfl ?_
        refine l_22 C dX11_swap_32 hE (fun v5 hE => ?_)
        refine j_istore_n (i := 3) (lv' := [(3, .int v5), (0, .ref (ad 0)), (1, .int x1), (2, .int x2)]) C dX11_swap_33 rfl (by decide) rfl ?_
        refine j_aload_n C dX11_swap_34 1 rfl ?_
        refine g_X11_44_0 C dX11_swap_35 ?_
        refine g_X11_96_21 C dX11_swap_38 ?_
        refine j_iload_n C dX11_swap_41 3 rfl ?_
        refine l_22 C dX11_swap_42 hE (fun v6 hE => ?_)
        refine j_istore (lv' := [(4, .int v6), (3, .int v5), (0, .ref (ad 0)), (1, .int x1), (2, .int x2)]) C dX11_swap_43 (by decide) rfl ?_
        refine j_iload_n C dX11_swap_45 1 rfl ?_
        refine j_if_ne (tgt := 59) C dX11_swap_46 rfl hE (fun hE => ?_) (fun hE => ?_)
        · refine j_sub [2, 3, 4, 1, 0] rfl ?_
          exact p_X11_swap_59 C Q  x1 x2 v5 v6 S3 hE
        · refine j_iload C dX11_swap_49 0 rfl ?_
          refine j_if_ne (tgt := 59) C dX11_swap_51 rfl hE (fun hE => ?_) (fun hE => ?_)
          · refine j_sub [2, 3, 4, 1, 0] rfl ?_
            exact p_X11_swap_59 C Q  x1 x2 v5 v6 S3 hE
          · refine j_aload_n C dX11_swap_54 2 rfl ?_
            refine k_X11_99_X11_refuseNo C dX11_swap_55 hE (Nat.le_of_ble_eq_true rfl) (Nat.le_of_ble_eq_true rfl) (Nat.le_of_ble_eq_true rfl) (fun v8 S7 hE => ?_)
            exact j_iret C Q dX11_swap_58 hE
      · refine j_sub [0] rfl ?_
        exact p_X11_swap_19 C Q   S3 hE
theorem c_X11_swap {l : Launch} {D : va_G} {ad : Nat → Nat} {cy : Nat → ClassId} (hO : jOk (jMain D ad cy)) (x1 : Int32) (x2 : Int32) (S : jS) {z : Int32 × jS} (hz : f_X11_swap x1 x2 S = some z) : Met l yX11_swap (.code yX11_swap cX11_swap 5 (some .int) :: jT) { frames := 2, cells := 0, slots := 0, locals := 69 } (va_Pc [.ref (ad 0), .int x1, .int x2] (jInv (jMain D ad cy) S)) (jQ (jMain D ad cy) (some (.int z.1), z.2)) 0 0 (yA (jMain D ad cy)) :=
  jMet hO (by decide +kernel) rfl (Nat.le_of_ble_eq_true rfl) (fun X _ C Q => p_X11_swap_e C Q x1 x2 S hz)
set_option maxRecDepth 100000 in
theorem p_X12_undo_28 {X : jX} {D : va_G} {ad : Nat → Nat} {cy : Nat → ClassId} (C : jC X (jMain D ad cy) RX12 cX12_undo (some .int) 2 1 22) {z : Int32 × jS} (Q : jRet X (jMain D ad cy) (some (.int z.1), z.2)) {g : Int32 → jS → Option (Int32 × jS)} (hg : ∀ (x1 : Int32) (S : jS), g x1 S = some z → jJ X (jMain D ad cy) 28 [(0, .ref (ad 41)), (1, .int x1)] [] S) {k66 : jS → Option (Int32 × jS)} (hk66 : ∀  (S : jS), k66  S = some z → jJ X (jMain D ad cy) 66 [(0, .ref (ad 41))] [] S) (x1 : Int32) (S : jS) (hE : f_X12_undo_28  g k66 x1 S = some z) : jJ X (jMain D ad cy) 28 [(0, .ref (ad 41)), (1, .int x1)] [] S := by
  unfold f_X12_undo_28 at hE
  refine j_iload_n C dX12_undo_28 1 rfl ?_
  refine j_bipush (v := 10) C dX12_undo_29 jc_bp_10 ?_
  refine j_icmp_ge (tgt := 66) C dX12_undo_31 rfl hE (fun hE => ?_) (fun hE => ?_)
  · refine j_sub [0] rfl ?_
    exact hk66  S hE
  · refine j_aload_n C dX12_undo_34 0 rfl ?_
    refine g_X12_7_41 C dX12_undo_35 ?_
    refine j_iload_n C dX12_undo_38 1 rfl ?_
    refine j_aload_n C dX12_undo_39 0 rfl ?_
    refine g_X12_7_41 C dX12_undo_40 ?_
    refine j_bipush (v := 69) C dX12_undo_43 jc_bp_69 ?_
    refine j_bipush (v := 10) C dX12_undo_45 jc_bp_10 ?_
    refine j_aload_n C dX12_undo_47 0 rfl ?_
    refine g_X12_7_41 C dX12_undo_48 ?_
    refine j_bipush (v := 12) C dX12_undo_51 jc_bp_12 ?_
    refine l_42 C dX12_undo_53 hE (fun v1 hE => ?_)
    refine j_imul C dX12_undo_54 ?_
    refine j_iadd C dX12_undo_55 ?_
    refine j_iload_n C dX12_undo_56 1 rfl ?_
    refine j_iadd C dX12_undo_57 ?_
    refine l_42 C dX12_undo_58 hE (fun v2 hE => ?_)
    refine s_42 C dX12_undo_59 hE (fun S3 hE => ?_)
    refine j_iinc (v := (x1 + 1)) (lv' := [(1, .int (x1 + 1)), (0, .ref (ad 41))]) C dX12_undo_60 1 rfl (congrArg (fun w => x1 + w) jc_ic_1) (by decide) rfl ?_
    refine j_goto (tgt := 28) C dX12_undo_63 rfl ?_
    refine j_sub [1, 0] rfl ?_
    exact hg (x1 + 1) S3 hE
theorem q_X12_undo_28 {X : jX} {D : va_G} {ad : Nat → Nat} {cy : Nat → ClassId} (C : jC X (jMain D ad cy) RX12 cX12_undo (some .int) 2 1 22) {z : Int32 × jS} (Q : jRet X (jMain D ad cy) (some (.int z.1), z.2)) {k66 : jS → Option (Int32 × jS)} (hk66 : ∀  (S : jS), k66  S = some z → jJ X (jMain D ad cy) 66 [(0, .ref (ad 41))] [] S) (x1 : Int32) (S : jS) (hE : lp_X12_undo_28  k66 x1 S = some z) : jJ X (jMain D ad cy) 28 [(0, .ref (ad 41)), (1, .int x1)] [] S :=
  jloop_P (α := Int32 × jS) (B := (fun g q => f_X12_undo_28  (fun x1 S => g (x1, S)) k66 q.1 q.2)) (P := fun q => jJ X (jMain D ad cy) 28 [(0, .ref (ad 41)), (1, .int q.1)] [] q.2) (fun g q hg h => p_X12_undo_28 C Q (g := fun x1 S => g (x1, S)) (fun x1 S h => hg (x1, S) h) hk66 q.1 q.2 h) jN (x1, S) hE
set_option maxRecDepth 100000 in
theorem p_X12_undo_66 {X : jX} {D : va_G} {ad : Nat → Nat} {cy : Nat → ClassId} (C : jC X (jMain D ad cy) RX12 cX12_undo (some .int) 2 1 22) {z : Int32 × jS} (Q : jRet X (jMain D ad cy) (some (.int z.1), z.2))   (S : jS) (hE : f_X12_undo_66    S = some z) : jJ X (jMain D ad cy) 66 [(0, .ref (ad 41))] [] S := by
  unfold f_X12_undo_66 at hE
  refine j_aload_n C dX12_undo_66 0 rfl ?_
  refine k_X12_91_X12_lived C dX12_undo_67 hE (Nat.le_of_ble_eq_true rfl) (Nat.le_of_ble_eq_true rfl) (Nat.le_of_ble_eq_true rfl) (fun v2 S1 hE => ?_)
  refine k_X12_95_X12_bits C dX12_undo_70 hE (Nat.le_of_ble_eq_true rfl) (Nat.le_of_ble_eq_true rfl) (Nat.le_of_ble_eq_true rfl) (fun v4 S3 hE => ?_)
  exact j_iret C Q dX12_undo_73 hE
set_option maxRecDepth 100000 in
theorem p_X12_undo_e {X : jX} {D : va_G} {ad : Nat → Nat} {cy : Nat → ClassId} (C : jC X (jMain D ad cy) RX12 cX12_undo (some .int) 2 1 22) {z : Int32 × jS} (Q : jRet X (jMain D ad cy) (some (.int z.1), z.2))   (S : jS) (hE : f_X12_undo_e    S = some z) : jJ X (jMain D ad cy) 0 [(0, .ref (ad 41))] [] S := by
  unfold f_X12_undo_e at hE
  refine j_aload_n C dX12_undo_0 0 rfl ?_
  refine g_X12_7_41 C dX12_undo_1 ?_
  refine j_bipush (v := 12) C dX12_undo_4 jc_bp_12 ?_
  refine l_42 C dX12_undo_6 hE (fun v1 hE => ?_)
  refine j_if_ne (tgt := 15) C dX12_undo_7 rfl hE (fun hE => ?_) (fun hE => ?_)
  · refine j_aload_n C dX12_undo_15 0 rfl ?_
    refine g_X12_7_41 C dX12_undo_16 ?_
    refine j_bipush (v := 12) C dX12_undo_19 jc_bp_12 ?_
    refine j_dup2 C dX12_undo_21 rfl rfl ?_
    refine l_42 C dX12_undo_22 hE (fun v2 hE => ?_)
    refine j_iconst (v := 1) C dX12_undo_23 jc_ic_1 ?_
    refine j_isub C dX12_undo_24 ?_
    refine s_42 C dX12_undo_25 hE (fun S3 hE => ?_)
    refine j_iconst (v := 0) C dX12_undo_26 jc_ic_0 ?_
    refine j_istore_n (i := 1) (lv' := [(1, .int 0), (0, .ref (ad 41))]) C dX12_undo_27 rfl (by decide) rfl ?_
    refine j_sub [1, 0] rfl ?_
    exact q_X12_undo_28 C Q (p_X12_undo_66 C Q ) 0 S3 hE
  · refine j_aload_n C dX12_undo_10 0 rfl ?_
    refine k_X12_111_X12_no C dX12_undo_11 hE (Nat.le_of_ble_eq_true rfl) (Nat.le_of_ble_eq_true rfl) (Nat.le_of_ble_eq_true rfl) (fun v5 S4 hE => ?_)
    exact j_iret C Q dX12_undo_14 hE
theorem c_X12_undo {l : Launch} {D : va_G} {ad : Nat → Nat} {cy : Nat → ClassId} (hO : jOk (jMain D ad cy))  (S : jS) {z : Int32 × jS} (hz : f_X12_undo  S = some z) : Met l yX12_undo (.code yX12_undo cX12_undo 2 (some .int) :: jT) { frames := 1, cells := 0, slots := 0, locals := 22 } (va_Pc [.ref (ad 41)] (jInv (jMain D ad cy) S)) (jQ (jMain D ad cy) (some (.int z.1), z.2)) 0 0 (yA (jMain D ad cy)) :=
  jMet hO (by decide +kernel) rfl (Nat.le_of_ble_eq_true rfl) (fun X _ C Q => p_X12_undo_e C Q  S hz)
set_option maxRecDepth 100000 in
theorem p_X10_goBack_e {X : jX} {D : va_G} {ad : Nat → Nat} {cy : Nat → ClassId} (C : jC X (jMain D ad cy) RX10 cX10_goBack (some .boolean) 2 1 48) {z : Int32 × jS} (Q : jRet X (jMain D ad cy) (some (.int z.1), z.2))   (S : jS) (hE : f_X10_goBack_e    S = some z) : jJ X (jMain D ad cy) 0 [(0, .ref (ad 21))] [] S := by
  unfold f_X10_goBack_e at hE
  refine j_aload_n C dX10_goBack_0 0 rfl ?_
  refine g_X10_34_21 C dX10_goBack_1 ?_
  refine j_iconst (v := 1) C dX10_goBack_4 jc_ic_1 ?_
  refine j_icmp_ge (tgt := 10) C dX10_goBack_5 rfl hE (fun hE => ?_) (fun hE => ?_)
  · refine j_aload_n C dX10_goBack_10 0 rfl ?_
    refine j_dup C dX10_goBack_11 rfl ?_
    refine g_X10_34_21 C dX10_goBack_12 ?_
    refine j_iconst (v := 1) C dX10_goBack_15 jc_ic_1 ?_
    refine j_isub C dX10_goBack_16 ?_
    refine p_X10_34_21 C dX10_goBack_17 hE (fun S1 hE => ?_)
    refine j_aload_n C dX10_goBack_20 0 rfl ?_
    refine g_X10_34_21 C dX10_goBack_21 ?_
    refine j_bipush (v := 9) C dX10_goBack_24 jc_bp_9 ?_
    refine j_imul C dX10_goBack_26 ?_
    refine j_istore_n (i := 1) (lv' := [(1, .int ((S1.1 21 6) * 9)), (0, .ref (ad 21))]) C dX10_goBack_27 rfl (by decide) rfl ?_
    refine j_aload_n C dX10_goBack_28 1 rfl ?_
    refine g_X10_21_21 C dX10_goBack_29 ?_
    refine j_iload_n C dX10_goBack_32 0 rfl ?_
    refine j_aload_n C dX10_goBack_33 1 rfl ?_
    refine g_X10_9_21 C dX10_goBack_34 ?_
    refine j_iconst (v := 0) C dX10_goBack_37 jc_ic_0 ?_
    refine j_bipush (v := 8) C dX10_goBack_38 jc_bp_8 ?_
    refine y_X10_37_25_22 C dX10_goBack_40 (Nat.le_of_ble_eq_true rfl) (by decide) hE (fun S2 hE => ?_)
    refine j_aload_n C dX10_goBack_43 1 rfl ?_
    refine j_aload_n C dX10_goBack_44 1 rfl ?_
    refine g_X10_21_21 C dX10_goBack_45 ?_
    refine j_iload_n C dX10_goBack_48 0 rfl ?_
    refine j_bipush (v := 8) C dX10_goBack_49 jc_bp_8 ?_
    refine j_iadd C dX10_goBack_51 ?_
    refine l_25 C dX10_goBack_52 hE (fun v3 hE => ?_)
    refine p_X10_24_21 C dX10_goBack_53 hE (fun S4 hE => ?_)
    refine j_iconst (v := 1) C dX10_goBack_56 jc_ic_1 ?_
    exact j_zret C Q dX10_goBack_57 hE
  · refine j_iconst (v := 0) C dX10_goBack_8 jc_ic_0 ?_
    exact j_zret C Q dX10_goBack_9 hE
theorem c_X10_goBack {l : Launch} {D : va_G} {ad : Nat → Nat} {cy : Nat → ClassId} (hO : jOk (jMain D ad cy))  (S : jS) {z : Int32 × jS} (hz : f_X10_goBack  S = some z) : Met l yX10_goBack (.code yX10_goBack cX10_goBack 2 (some .boolean) :: jT) { frames := 1, cells := 0, slots := 0, locals := 48 } (va_Pc [.ref (ad 21)] (jInv (jMain D ad cy) S)) (jQ (jMain D ad cy) (some (.int z.1), z.2)) 0 0 (yA (jMain D ad cy)) :=
  jMet hO (by decide +kernel) rfl (Nat.le_of_ble_eq_true rfl) (fun X _ C Q => p_X10_goBack_e C Q  S hz)
theorem k_X11_102_X10_goBack {X : jX} {D : va_G} {ad : Nat → Nat} {cy : Nat → ClassId} {cc : ByteArray} {ret : Option FieldType} {nL fr lo pc : Nat} {lv : List (Nat × Value)} {st : List Value} {S : jS} {β : Type} {z : β} (C : jC X (jMain D ad cy) RX11 cc ret nL fr lo)  {E : Int32 → jS → Option β} (d : decode cc pc = .ok (.invokevirtual 102, 3)) (hE : jcl (f_X10_goBack  S) E = some z) (hfr : 2 ≤ fr) (hlo : 69 ≤ lo) (hst : (st.map fun v => v.category).sum ≤ 8) (K : ∀ (v : Int32) (S1 : jS), E v S1 = some z → jJ X (jMain D ad cy) (pc + 3) lv (.int v :: st) S1) : jJ X (jMain D ad cy) pc lv (.ref (ad 21) :: st) S := by
  obtain ⟨v, h1, h2⟩ := jcl_some hE
  exact j_callV (k := 21) (ci := 10) (T := TX10) (N := 8) (n := 0) (As := []) C (c_X10_goBack C.2.2.2.2.2.2.1  S h1) tw_391 tw_392 tw_393 tw_80 tw_394 (by decide +kernel) rfl (by decide : 21 < 56) rfl rfl hfr hlo hst rfl d (K _ _ h2)
set_option maxRecDepth 100000 in
theorem p_X11_undo_e {X : jX} {D : va_G} {ad : Nat → Nat} {cy : Nat → ClassId} (C : jC X (jMain D ad cy) RX11 cX11_undo (some .int) 1 2 69) {z : Int32 × jS} (Q : jRet X (jMain D ad cy) (some (.int z.1), z.2))   (S : jS) (hE : f_X11_undo_e    S = some z) : jJ X (jMain D ad cy) 0 [(0, .ref (ad 0))] [] S := by
  unfold f_X11_undo_e at hE
  refine j_aload_n C dX11_undo_0 0 rfl ?_
  refine g_X11_44_0 C dX11_undo_1 ?_
  refine k_X11_102_X10_goBack C dX11_undo_4 hE (Nat.le_of_ble_eq_true rfl) (Nat.le_of_ble_eq_true rfl) (Nat.le_of_ble_eq_true rfl) (fun v2 S1 hE => ?_)
  refine j_if_ne (tgt := 15) C dX11_undo_7 rfl hE (fun hE => ?_) (fun hE => ?_)
  · refine j_aload_n C dX11_undo_15 0 rfl ?_
    refine g_X11_44_0 C dX11_undo_16 ?_
    refine k_X11_78_X10_living C dX11_undo_19 hE (Nat.le_of_ble_eq_true rfl) (Nat.le_of_ble_eq_true rfl) (Nat.le_of_ble_eq_true rfl) (fun v4 S3 hE => ?_)
    exact j_iret C Q dX11_undo_22 hE
  · refine j_aload_n C dX11_undo_10 0 rfl ?_
    refine k_X11_99_X11_refuseNo C dX11_undo_11 hE (Nat.le_of_ble_eq_true rfl) (Nat.le_of_ble_eq_true rfl) (Nat.le_of_ble_eq_true rfl) (fun v6 S5 hE => ?_)
    exact j_iret C Q dX11_undo_14 hE
theorem c_X11_undo {l : Launch} {D : va_G} {ad : Nat → Nat} {cy : Nat → ClassId} (hO : jOk (jMain D ad cy))  (S : jS) {z : Int32 × jS} (hz : f_X11_undo  S = some z) : Met l yX11_undo (.code yX11_undo cX11_undo 1 (some .int) :: jT) { frames := 2, cells := 0, slots := 0, locals := 69 } (va_Pc [.ref (ad 0)] (jInv (jMain D ad cy) S)) (jQ (jMain D ad cy) (some (.int z.1), z.2)) 0 0 (yA (jMain D ad cy)) :=
  jMet hO (by decide +kernel) rfl (Nat.le_of_ble_eq_true rfl) (fun X _ C Q => p_X11_undo_e C Q  S hz)
set_option maxRecDepth 100000 in
theorem p_X12_full_e {X : jX} {D : va_G} {ad : Nat → Nat} {cy : Nat → ClassId} (C : jC X (jMain D ad cy) RX12 cX12_full (some .int) 1 0 0) {z : Int32 × jS} (Q : jRet X (jMain D ad cy) (some (.int z.1), z.2))   (S : jS) (hE : f_X12_full_e    S = some z) : jJ X (jMain D ad cy) 0 [(0, .ref (ad 41))] [] S := by
  unfold f_X12_full_e at hE
  refine j_aload_n C dX12_full_0 0 rfl ?_
  refine g_X12_20_41 C dX12_full_1 ?_
  refine j_iconst (v := 2) C dX12_full_4 jc_ic_2 ?_
  refine j_dup2 C dX12_full_5 rfl rfl ?_
  refine l_45 C dX12_full_6 hE (fun v1 hE => ?_)
  refine j_iconst (v := 1) C dX12_full_7 jc_ic_1 ?_
  refine j_iadd C dX12_full_8 ?_
  refine s_45 C dX12_full_9 hE (fun S2 hE => ?_)
  refine j_bipush (v := (-4)) C dX12_full_10 jc_bp_m4 ?_
  exact j_iret C Q dX12_full_12 hE
theorem c_X12_full {l : Launch} {D : va_G} {ad : Nat → Nat} {cy : Nat → ClassId} (hO : jOk (jMain D ad cy))  (S : jS) {z : Int32 × jS} (hz : f_X12_full  S = some z) : Met l yX12_full (.code yX12_full cX12_full 1 (some .int) :: jT) { frames := 0, cells := 0, slots := 0, locals := 0 } (va_Pc [.ref (ad 41)] (jInv (jMain D ad cy) S)) (jQ (jMain D ad cy) (some (.int z.1), z.2)) 0 0 (yA (jMain D ad cy)) :=
  jMet hO (by decide +kernel) rfl (Nat.le_of_ble_eq_true rfl) (fun X _ C Q => p_X12_full_e C Q  S hz)
theorem k_X12_186_X12_full {X : jX} {D : va_G} {ad : Nat → Nat} {cy : Nat → ClassId} {cc : ByteArray} {ret : Option FieldType} {nL fr lo pc : Nat} {lv : List (Nat × Value)} {st : List Value} {S : jS} {β : Type} {z : β} (C : jC X (jMain D ad cy) RX12 cc ret nL fr lo)  {E : Int32 → jS → Option β} (d : decode cc pc = .ok (.invokevirtual 186, 3)) (hE : jcl (f_X12_full  S) E = some z) (hfr : 1 ≤ fr) (hlo : 20 ≤ lo) (hst : (st.map fun v => v.category).sum ≤ 8) (K : ∀ (v : Int32) (S1 : jS), E v S1 = some z → jJ X (jMain D ad cy) (pc + 3) lv (.int v :: st) S1) : jJ X (jMain D ad cy) pc lv (.ref (ad 41) :: st) S := by
  obtain ⟨v, h1, h2⟩ := jcl_some hE
  exact j_callV (k := 41) (ci := 12) (T := TX12) (N := 25) (n := 0) (As := []) C (c_X12_full C.2.2.2.2.2.2.1  S h1) tw_1150 tw_1152 tw_55 tw_81 tw_1153 (by decide +kernel) rfl (by decide : 41 < 56) rfl rfl hfr hlo hst rfl d (K _ _ h2)
set_option maxRecDepth 100000 in
theorem p_X12_type_e {X : jX} {D : va_G} {ad : Nat → Nat} {cy : Nat → ClassId} (C : jC X (jMain D ad cy) RX12 cX12_type (some .int) 2 1 25) {z : Int32 × jS} (Q : jRet X (jMain D ad cy) (some (.int z.1), z.2))  (x1 : Int32) (S : jS) (hE : f_X12_type_e   x1 S = some z) : jJ X (jMain D ad cy) 0 [(0, .ref (ad 41)), (1, .int x1)] [] S := by
  unfold f_X12_type_e at hE
  refine j_iload_n C dX12_type_0 1 rfl ?_
  refine j_i2l C dX12_type_1 ?_
  refine j_lconst (v := 0) C dX12_type_2 jc_lc_0 ?_
  refine j_ldc2 (v := 127) C dX12_type_3 tw_1218 ?_
  refine k_X12_59_X12_in C dX12_type_6 hE (Nat.le_of_ble_eq_true rfl) (Nat.le_of_ble_eq_true rfl) (Nat.le_of_ble_eq_true rfl) (fun v2 S1 hE => ?_)
  refine j_if_ne (tgt := 19) C dX12_type_9 rfl hE (fun hE => ?_) (fun hE => ?_)
  · refine j_aload_n C dX12_type_19 0 rfl ?_
    refine g_X12_232_41 C dX12_type_20 ?_
    refine j_sipush (v := 150) C dX12_type_23 jc_sp_150 ?_
    refine j_icmp_ne (tgt := 34) C dX12_type_26 rfl hE (fun hE => ?_) (fun hE => ?_)
    · refine j_aload_n C dX12_type_34 0 rfl ?_
      refine g_X12_48_41 C dX12_type_35 ?_
      refine j_aload_n C dX12_type_38 0 rfl ?_
      refine g_X12_232_41 C dX12_type_39 ?_
      refine j_iload_n C dX12_type_42 1 rfl ?_
      refine s_53 C dX12_type_43 hE (fun S3 hE => ?_)
      refine j_aload_n C dX12_type_44 0 rfl ?_
      refine j_dup C dX12_type_45 rfl ?_
      refine g_X12_232_41 C dX12_type_46 ?_
      refine j_iconst (v := 1) C dX12_type_49 jc_ic_1 ?_
      refine j_iadd C dX12_type_50 ?_
      refine p_X12_232_41 C dX12_type_51 hE (fun S4 hE => ?_)
      refine j_aload_n C dX12_type_54 0 rfl ?_
      refine g_X12_232_41 C dX12_type_55 ?_
      exact j_iret C Q dX12_type_58 hE
    · refine j_aload_n C dX12_type_29 0 rfl ?_
      refine k_X12_186_X12_full C dX12_type_30 hE (Nat.le_of_ble_eq_true rfl) (Nat.le_of_ble_eq_true rfl) (Nat.le_of_ble_eq_true rfl) (fun v6 S5 hE => ?_)
      exact j_iret C Q dX12_type_33 hE
  · refine j_aload_n C dX12_type_12 0 rfl ?_
    refine j_bipush (v := (-2)) C dX12_type_13 jc_bp_m2 ?_
    refine k_X12_87_X12_bad C dX12_type_15 hE (Nat.le_of_ble_eq_true rfl) (Nat.le_of_ble_eq_true rfl) (Nat.le_of_ble_eq_true rfl) (fun v8 S7 hE => ?_)
    exact j_iret C Q dX12_type_18 hE
theorem c_X12_type {l : Launch} {D : va_G} {ad : Nat → Nat} {cy : Nat → ClassId} (hO : jOk (jMain D ad cy)) (x1 : Int32) (S : jS) {z : Int32 × jS} (hz : f_X12_type x1 S = some z) : Met l yX12_type (.code yX12_type cX12_type 2 (some .int) :: jT) { frames := 1, cells := 0, slots := 0, locals := 25 } (va_Pc [.ref (ad 41), .int x1] (jInv (jMain D ad cy) S)) (jQ (jMain D ad cy) (some (.int z.1), z.2)) 0 0 (yA (jMain D ad cy)) :=
  jMet hO (by decide +kernel) rfl (Nat.le_of_ble_eq_true rfl) (fun X _ C Q => p_X12_type_e C Q x1 S hz)
set_option maxRecDepth 100000 in
theorem p_X7_take_e {X : jX} {D : va_G} {ad : Nat → Nat} {cy : Nat → ClassId} (C : jC X (jMain D ad cy) RX7 cX7_take (some .boolean) 2 0 0) {z : Int32 × jS} (Q : jRet X (jMain D ad cy) (some (.int z.1), z.2))  (x1 : Int32) (S : jS) (hE : f_X7_take_e   x1 S = some z) : jJ X (jMain D ad cy) 0 [(0, .ref (ad 18)), (1, .int x1)] [] S := by
  unfold f_X7_take_e at hE
  refine j_aload_n C dX7_take_0 0 rfl ?_
  refine g_X7_23_18 C dX7_take_1 ?_
  refine j_sipush (v := 150) C dX7_take_4 jc_sp_150 ?_
  refine j_icmp_lt (tgt := 12) C dX7_take_7 rfl hE (fun hE => ?_) (fun hE => ?_)
  · refine j_aload_n C dX7_take_12 0 rfl ?_
    refine g_X7_19_18 C dX7_take_13 ?_
    refine j_aload_n C dX7_take_16 0 rfl ?_
    refine g_X7_23_18 C dX7_take_17 ?_
    refine j_iload_n C dX7_take_20 1 rfl ?_
    refine j_i2b C dX7_take_21 ?_
    refine s_20 C dX7_take_22 hE (fun S1 hE => ?_)
    refine j_aload_n C dX7_take_23 0 rfl ?_
    refine j_dup C dX7_take_24 rfl ?_
    refine g_X7_23_18 C dX7_take_25 ?_
    refine j_iconst (v := 1) C dX7_take_28 jc_ic_1 ?_
    refine j_iadd C dX7_take_29 ?_
    refine p_X7_23_18 C dX7_take_30 hE (fun S2 hE => ?_)
    refine j_iconst (v := 1) C dX7_take_33 jc_ic_1 ?_
    exact j_zret C Q dX7_take_34 hE
  · refine j_iconst (v := 0) C dX7_take_10 jc_ic_0 ?_
    exact j_zret C Q dX7_take_11 hE
theorem c_X7_take {l : Launch} {D : va_G} {ad : Nat → Nat} {cy : Nat → ClassId} (hO : jOk (jMain D ad cy)) (x1 : Int32) (S : jS) {z : Int32 × jS} (hz : f_X7_take x1 S = some z) : Met l yX7_take (.code yX7_take cX7_take 2 (some .boolean) :: jT) { frames := 0, cells := 0, slots := 0, locals := 0 } (va_Pc [.ref (ad 18), .int x1] (jInv (jMain D ad cy) S)) (jQ (jMain D ad cy) (some (.int z.1), z.2)) 0 0 (yA (jMain D ad cy)) :=
  jMet hO (by decide +kernel) rfl (Nat.le_of_ble_eq_true rfl) (fun X _ C Q => p_X7_take_e C Q x1 S hz)
theorem k_X11_106_X7_take {X : jX} {D : va_G} {ad : Nat → Nat} {cy : Nat → ClassId} {cc : ByteArray} {ret : Option FieldType} {nL fr lo pc : Nat} {lv : List (Nat × Value)} {st : List Value} {S : jS} {β : Type} {z : β} (C : jC X (jMain D ad cy) RX11 cc ret nL fr lo) {a0 : Int32} {E : Int32 → jS → Option β} (d : decode cc pc = .ok (.invokevirtual 106, 3)) (hE : jcl (f_X7_take a0 S) E = some z) (hfr : 1 ≤ fr) (hlo : 21 ≤ lo) (hst : (st.map fun v => v.category).sum ≤ 8) (K : ∀ (v : Int32) (S1 : jS), E v S1 = some z → jJ X (jMain D ad cy) (pc + 3) lv (.int v :: st) S1) : jJ X (jMain D ad cy) pc lv (.int a0 :: .ref (ad 18) :: st) S := by
  obtain ⟨v, h1, h2⟩ := jcl_some hE
  exact j_callV (k := 18) (ci := 7) (T := TX7) (N := 10) (n := 1) (As := [.int a0]) C (c_X7_take C.2.2.2.2.2.2.1 a0 S h1) tw_399 tw_400 tw_401 tw_79 tw_402 (by decide +kernel) rfl (by decide : 18 < 56) rfl rfl hfr hlo hst rfl d (K _ _ h2)
set_option maxRecDepth 100000 in
theorem p_X11_refuseFull_e {X : jX} {D : va_G} {ad : Nat → Nat} {cy : Nat → ClassId} (C : jC X (jMain D ad cy) RX11 cX11_refuseFull (some .int) 1 0 0) {z : Int32 × jS} (Q : jRet X (jMain D ad cy) (some (.int z.1), z.2))   (S : jS) (hE : f_X11_refuseFull_e    S = some z) : jJ X (jMain D ad cy) 0 [(0, .ref (ad 0))] [] S := by
  unfold f_X11_refuseFull_e at hE
  refine j_aload_n C dX11_refuseFull_0 0 rfl ?_
  refine j_dup C dX11_refuseFull_1 rfl ?_
  refine g_X11_279_0 C dX11_refuseFull_2 ?_
  refine j_iconst (v := 1) C dX11_refuseFull_5 jc_ic_1 ?_
  refine j_iadd C dX11_refuseFull_6 ?_
  refine p_X11_279_0 C dX11_refuseFull_7 hE (fun S1 hE => ?_)
  refine j_bipush (v := (-4)) C dX11_refuseFull_10 jc_bp_m4 ?_
  exact j_iret C Q dX11_refuseFull_12 hE
theorem c_X11_refuseFull {l : Launch} {D : va_G} {ad : Nat → Nat} {cy : Nat → ClassId} (hO : jOk (jMain D ad cy))  (S : jS) {z : Int32 × jS} (hz : f_X11_refuseFull  S = some z) : Met l yX11_refuseFull (.code yX11_refuseFull cX11_refuseFull 1 (some .int) :: jT) { frames := 0, cells := 0, slots := 0, locals := 0 } (va_Pc [.ref (ad 0)] (jInv (jMain D ad cy) S)) (jQ (jMain D ad cy) (some (.int z.1), z.2)) 0 0 (yA (jMain D ad cy)) :=
  jMet hO (by decide +kernel) rfl (Nat.le_of_ble_eq_true rfl) (fun X _ C Q => p_X11_refuseFull_e C Q  S hz)
theorem k_X11_109_X11_refuseFull {X : jX} {D : va_G} {ad : Nat → Nat} {cy : Nat → ClassId} {cc : ByteArray} {ret : Option FieldType} {nL fr lo pc : Nat} {lv : List (Nat × Value)} {st : List Value} {S : jS} {β : Type} {z : β} (C : jC X (jMain D ad cy) RX11 cc ret nL fr lo)  {E : Int32 → jS → Option β} (d : decode cc pc = .ok (.invokevirtual 109, 3)) (hE : jcl (f_X11_refuseFull  S) E = some z) (hfr : 1 ≤ fr) (hlo : 20 ≤ lo) (hst : (st.map fun v => v.category).sum ≤ 8) (K : ∀ (v : Int32) (S1 : jS), E v S1 = some z → jJ X (jMain D ad cy) (pc + 3) lv (.int v :: st) S1) : jJ X (jMain D ad cy) pc lv (.ref (ad 0) :: st) S := by
  obtain ⟨v, h1, h2⟩ := jcl_some hE
  exact j_callV (k := 0) (ci := 11) (T := TX11) (N := 16) (n := 0) (As := []) C (c_X11_refuseFull C.2.2.2.2.2.2.1  S h1) tw_403 tw_405 tw_2 tw_69 tw_406 (by decide +kernel) rfl (by decide : 0 < 56) rfl rfl hfr hlo hst rfl d (K _ _ h2)
set_option maxRecDepth 100000 in
theorem p_X11_type_10 {X : jX} {D : va_G} {ad : Nat → Nat} {cy : Nat → ClassId} (C : jC X (jMain D ad cy) RX11 cX11_type (some .int) 2 1 21) {z : Int32 × jS} (Q : jRet X (jMain D ad cy) (some (.int z.1), z.2))   (S : jS) (hE : f_X11_type_10    S = some z) : jJ X (jMain D ad cy) 10 [(0, .ref (ad 0))] [] S := by
  unfold f_X11_type_10 at hE
  refine j_aload_n C dX11_type_10 0 rfl ?_
  refine k_X11_74_X11_refuseBad C dX11_type_11 hE (Nat.le_of_ble_eq_true rfl) (Nat.le_of_ble_eq_true rfl) (Nat.le_of_ble_eq_true rfl) (fun v2 S1 hE => ?_)
  exact j_iret C Q dX11_type_14 hE
set_option maxRecDepth 100000 in
theorem p_X11_type_e {X : jX} {D : va_G} {ad : Nat → Nat} {cy : Nat → ClassId} (C : jC X (jMain D ad cy) RX11 cX11_type (some .int) 2 1 21) {z : Int32 × jS} (Q : jRet X (jMain D ad cy) (some (.int z.1), z.2))  (x1 : Int32) (S : jS) (hE : f_X11_type_e   x1 S = some z) : jJ X (jMain D ad cy) 0 [(0, .ref (ad 0)), (1, .int x1)] [] S := by
  unfold f_X11_type_e at hE
  refine j_iload_n C dX11_type_0 1 rfl ?_
  refine j_if_lt (tgt := 10) C dX11_type_1 rfl hE (fun hE => ?_) (fun hE => ?_)
  · refine j_sub [0] rfl ?_
    exact p_X11_type_10 C Q   S hE
  · refine j_iload_n C dX11_type_4 1 rfl ?_
    refine j_bipush (v := 127) C dX11_type_5 jc_bp_127 ?_
    refine j_icmp_le (tgt := 15) C dX11_type_7 rfl hE (fun hE => ?_) (fun hE => ?_)
    · refine j_aload_n C dX11_type_15 0 rfl ?_
      refine g_X11_37_0 C dX11_type_16 ?_
      refine j_iload_n C dX11_type_19 1 rfl ?_
      refine k_X11_106_X7_take C dX11_type_20 hE (Nat.le_of_ble_eq_true rfl) (Nat.le_of_ble_eq_true rfl) (Nat.le_of_ble_eq_true rfl) (fun v2 S1 hE => ?_)
      refine j_if_ne (tgt := 31) C dX11_type_23 rfl hE (fun hE => ?_) (fun hE => ?_)
      · refine j_aload_n C dX11_type_31 0 rfl ?_
        refine g_X11_37_0 C dX11_type_32 ?_
        refine g_X11_112_18 C dX11_type_35 ?_
        exact j_iret C Q dX11_type_38 hE
      · refine j_aload_n C dX11_type_26 0 rfl ?_
        refine k_X11_109_X11_refuseFull C dX11_type_27 hE (Nat.le_of_ble_eq_true rfl) (Nat.le_of_ble_eq_true rfl) (Nat.le_of_ble_eq_true rfl) (fun v4 S3 hE => ?_)
        exact j_iret C Q dX11_type_30 hE
    · refine j_sub [0] rfl ?_
      exact p_X11_type_10 C Q   S hE
theorem c_X11_type {l : Launch} {D : va_G} {ad : Nat → Nat} {cy : Nat → ClassId} (hO : jOk (jMain D ad cy)) (x1 : Int32) (S : jS) {z : Int32 × jS} (hz : f_X11_type x1 S = some z) : Met l yX11_type (.code yX11_type cX11_type 2 (some .int) :: jT) { frames := 1, cells := 0, slots := 0, locals := 21 } (va_Pc [.ref (ad 0), .int x1] (jInv (jMain D ad cy) S)) (jQ (jMain D ad cy) (some (.int z.1), z.2)) 0 0 (yA (jMain D ad cy)) :=
  jMet hO (by decide +kernel) rfl (Nat.le_of_ble_eq_true rfl) (fun X _ C Q => p_X11_type_e C Q x1 S hz)
set_option maxRecDepth 100000 in
theorem p_X12_clear_e {X : jX} {D : va_G} {ad : Nat → Nat} {cy : Nat → ClassId} (C : jC X (jMain D ad cy) RX12 cX12_clear (some .int) 2 0 0) {z : Int32 × jS} (Q : jRet X (jMain D ad cy) (some (.int z.1), z.2))   (S : jS) (hE : f_X12_clear_e    S = some z) : jJ X (jMain D ad cy) 0 [(0, .ref (ad 41))] [] S := by
  unfold f_X12_clear_e at hE
  refine j_aload_n C dX12_clear_0 0 rfl ?_
  refine g_X12_232_41 C dX12_clear_1 ?_
  refine j_istore_n (i := 1) (lv' := [(1, .int (S.1 41 18)), (0, .ref (ad 41))]) C dX12_clear_4 rfl (by decide) rfl ?_
  refine j_aload_n C dX12_clear_5 1 rfl ?_
  refine j_iconst (v := 0) C dX12_clear_6 jc_ic_0 ?_
  refine p_X12_232_41 C dX12_clear_7 hE (fun S1 hE => ?_)
  refine j_iload_n C dX12_clear_10 0 rfl ?_
  exact j_iret C Q dX12_clear_11 hE
theorem c_X12_clear {l : Launch} {D : va_G} {ad : Nat → Nat} {cy : Nat → ClassId} (hO : jOk (jMain D ad cy))  (S : jS) {z : Int32 × jS} (hz : f_X12_clear  S = some z) : Met l yX12_clear (.code yX12_clear cX12_clear 2 (some .int) :: jT) { frames := 0, cells := 0, slots := 0, locals := 0 } (va_Pc [.ref (ad 41)] (jInv (jMain D ad cy) S)) (jQ (jMain D ad cy) (some (.int z.1), z.2)) 0 0 (yA (jMain D ad cy)) :=
  jMet hO (by decide +kernel) rfl (Nat.le_of_ble_eq_true rfl) (fun X _ C Q => p_X12_clear_e C Q  S hz)
set_option maxRecDepth 100000 in
theorem p_X11_clear_e {X : jX} {D : va_G} {ad : Nat → Nat} {cy : Nat → ClassId} (C : jC X (jMain D ad cy) RX11 cX11_clear (some .int) 2 0 0) {z : Int32 × jS} (Q : jRet X (jMain D ad cy) (some (.int z.1), z.2))   (S : jS) (hE : f_X11_clear_e    S = some z) : jJ X (jMain D ad cy) 0 [(0, .ref (ad 0))] [] S := by
  unfold f_X11_clear_e at hE
  refine j_aload_n C dX11_clear_0 0 rfl ?_
  refine g_X11_37_0 C dX11_clear_1 ?_
  refine g_X11_112_18 C dX11_clear_4 ?_
  refine j_istore_n (i := 1) (lv' := [(1, .int (S.1 18 1)), (0, .ref (ad 0))]) C dX11_clear_7 rfl (by decide) rfl ?_
  refine j_aload_n C dX11_clear_8 1 rfl ?_
  refine g_X11_37_0 C dX11_clear_9 ?_
  refine j_iconst (v := 0) C dX11_clear_12 jc_ic_0 ?_
  refine p_X11_112_18 C dX11_clear_13 hE (fun S1 hE => ?_)
  refine j_iload_n C dX11_clear_16 0 rfl ?_
  exact j_iret C Q dX11_clear_17 hE
theorem c_X11_clear {l : Launch} {D : va_G} {ad : Nat → Nat} {cy : Nat → ClassId} (hO : jOk (jMain D ad cy))  (S : jS) {z : Int32 × jS} (hz : f_X11_clear  S = some z) : Met l yX11_clear (.code yX11_clear cX11_clear 2 (some .int) :: jT) { frames := 0, cells := 0, slots := 0, locals := 0 } (va_Pc [.ref (ad 0)] (jInv (jMain D ad cy) S)) (jQ (jMain D ad cy) (some (.int z.1), z.2)) 0 0 (yA (jMain D ad cy)) :=
  jMet hO (by decide +kernel) rfl (Nat.le_of_ble_eq_true rfl) (fun X _ C Q => p_X11_clear_e C Q  S hz)
set_option maxRecDepth 100000 in
theorem p_X12_isSmall_e {X : jX} {D : va_G} {ad : Nat → Nat} {cy : Nat → ClassId} (C : jC X (jMain D ad cy) RX12 cX12_isSmall (some .boolean) 1 1 25) {z : Int32 × jS} (Q : jRet X (jMain D ad cy) (some (.int z.1), z.2))  (x0 : Int32) (S : jS) (hE : f_X12_isSmall_e   x0 S = some z) : jJ X (jMain D ad cy) 0 [(0, .int x0)] [] S := by
  unfold f_X12_isSmall_e at hE
  refine j_iload_n C dX12_isSmall_0 0 rfl ?_
  refine j_i2l C dX12_isSmall_1 ?_
  refine j_ldc2 (v := 97) C dX12_isSmall_2 tw_1234 ?_
  refine j_ldc2 (v := 122) C dX12_isSmall_5 tw_1235 ?_
  refine k_X12_59_X12_in C dX12_isSmall_8 hE (Nat.le_of_ble_eq_true rfl) (Nat.le_of_ble_eq_true rfl) (Nat.le_of_ble_eq_true rfl) (fun v2 S1 hE => ?_)
  exact j_zret C Q dX12_isSmall_11 hE
theorem c_X12_isSmall {l : Launch} {D : va_G} {ad : Nat → Nat} {cy : Nat → ClassId} (hO : jOk (jMain D ad cy)) (x0 : Int32) (S : jS) {z : Int32 × jS} (hz : f_X12_isSmall x0 S = some z) : Met l yX12_isSmall (.code yX12_isSmall cX12_isSmall 1 (some .boolean) :: jT) { frames := 1, cells := 0, slots := 0, locals := 25 } (va_Pc [.int x0] (jInv (jMain D ad cy) S)) (jQ (jMain D ad cy) (some (.int z.1), z.2)) 0 0 (yA (jMain D ad cy)) :=
  jMet hO (by decide +kernel) rfl (Nat.le_of_ble_eq_true rfl) (fun X _ C Q => p_X12_isSmall_e C Q x0 S hz)
theorem k_X12_255_X12_isSmall {X : jX} {D : va_G} {ad : Nat → Nat} {cy : Nat → ClassId} {cc : ByteArray} {ret : Option FieldType} {nL fr lo pc : Nat} {lv : List (Nat × Value)} {st : List Value} {S : jS} {β : Type} {z : β} (C : jC X (jMain D ad cy) RX12 cc ret nL fr lo) {a0 : Int32} {E : Int32 → jS → Option β} (d : decode cc pc = .ok (.invokestatic 255, 3)) (hE : jcl (f_X12_isSmall a0 S) E = some z) (hfr : 2 ≤ fr) (hlo : 45 ≤ lo) (hst : (st.map fun v => v.category).sum ≤ 8) (K : ∀ (v : Int32) (S1 : jS), E v S1 = some z → jJ X (jMain D ad cy) (pc + 3) lv (.int v :: st) S1) : jJ X (jMain D ad cy) pc lv (.int a0 :: st) S := by
  obtain ⟨v, h1, h2⟩ := jcl_some hE
  exact j_callS (n := 1) (As := [.int a0]) C (c_X12_isSmall C.2.2.2.2.2.2.1 a0 S h1) tw_1231 tw_1232 tw_81 tw_1233 (by decide +kernel) rfl hfr hlo hst rfl d (K _ _ h2)
set_option maxRecDepth 100000 in
theorem p_X12_isFigure_e {X : jX} {D : va_G} {ad : Nat → Nat} {cy : Nat → ClassId} (C : jC X (jMain D ad cy) RX12 cX12_isFigure (some .boolean) 1 1 25) {z : Int32 × jS} (Q : jRet X (jMain D ad cy) (some (.int z.1), z.2))  (x0 : Int32) (S : jS) (hE : f_X12_isFigure_e   x0 S = some z) : jJ X (jMain D ad cy) 0 [(0, .int x0)] [] S := by
  unfold f_X12_isFigure_e at hE
  refine j_iload_n C dX12_isFigure_0 0 rfl ?_
  refine j_i2l C dX12_isFigure_1 ?_
  refine j_ldc2 (v := 48) C dX12_isFigure_2 tw_1239 ?_
  refine j_ldc2 (v := 57) C dX12_isFigure_5 tw_1240 ?_
  refine k_X12_59_X12_in C dX12_isFigure_8 hE (Nat.le_of_ble_eq_true rfl) (Nat.le_of_ble_eq_true rfl) (Nat.le_of_ble_eq_true rfl) (fun v2 S1 hE => ?_)
  exact j_zret C Q dX12_isFigure_11 hE
theorem c_X12_isFigure {l : Launch} {D : va_G} {ad : Nat → Nat} {cy : Nat → ClassId} (hO : jOk (jMain D ad cy)) (x0 : Int32) (S : jS) {z : Int32 × jS} (hz : f_X12_isFigure x0 S = some z) : Met l yX12_isFigure (.code yX12_isFigure cX12_isFigure 1 (some .boolean) :: jT) { frames := 1, cells := 0, slots := 0, locals := 25 } (va_Pc [.int x0] (jInv (jMain D ad cy) S)) (jQ (jMain D ad cy) (some (.int z.1), z.2)) 0 0 (yA (jMain D ad cy)) :=
  jMet hO (by decide +kernel) rfl (Nat.le_of_ble_eq_true rfl) (fun X _ C Q => p_X12_isFigure_e C Q x0 S hz)
theorem k_X12_258_X12_isFigure {X : jX} {D : va_G} {ad : Nat → Nat} {cy : Nat → ClassId} {cc : ByteArray} {ret : Option FieldType} {nL fr lo pc : Nat} {lv : List (Nat × Value)} {st : List Value} {S : jS} {β : Type} {z : β} (C : jC X (jMain D ad cy) RX12 cc ret nL fr lo) {a0 : Int32} {E : Int32 → jS → Option β} (d : decode cc pc = .ok (.invokestatic 258, 3)) (hE : jcl (f_X12_isFigure a0 S) E = some z) (hfr : 2 ≤ fr) (hlo : 45 ≤ lo) (hst : (st.map fun v => v.category).sum ≤ 8) (K : ∀ (v : Int32) (S1 : jS), E v S1 = some z → jJ X (jMain D ad cy) (pc + 3) lv (.int v :: st) S1) : jJ X (jMain D ad cy) pc lv (.int a0 :: st) S := by
  obtain ⟨v, h1, h2⟩ := jcl_some hE
  exact j_callS (n := 1) (As := [.int a0]) C (c_X12_isFigure C.2.2.2.2.2.2.1 a0 S h1) tw_1236 tw_1237 tw_81 tw_1238 (by decide +kernel) rfl hfr hlo hst rfl d (K _ _ h2)
set_option maxRecDepth 100000 in
theorem p_X12_lookAt_5 {X : jX} {D : va_G} {ad : Nat → Nat} {cy : Nat → ClassId} (C : jC X (jMain D ad cy) RX12 cX12_lookAt (none) 5 2 45) {z : jS} (Q : jRet X (jMain D ad cy) (none, z)) {g : jS → Option (jS)} (hg : ∀  (S : jS), g  S = some z → jJ X (jMain D ad cy) 5 [(0, .ref (ad 41))] [] S) {k43 : jS → Option (jS)} (hk43 : ∀  (S : jS), k43  S = some z → jJ X (jMain D ad cy) 43 [(0, .ref (ad 41))] [] S)  (S : jS) (hE : f_X12_lookAt_5  g k43  S = some z) : jJ X (jMain D ad cy) 5 [(0, .ref (ad 41))] [] S := by
  unfold f_X12_lookAt_5 at hE
  refine j_aload_n C dX12_lookAt_5 0 rfl ?_
  refine g_X12_243_41 C dX12_lookAt_6 ?_
  refine j_aload_n C dX12_lookAt_9 0 rfl ?_
  refine g_X12_232_41 C dX12_lookAt_10 ?_
  refine j_icmp_ge (tgt := 43) C dX12_lookAt_13 rfl hE (fun hE => ?_) (fun hE => ?_)
  · exact hk43  S hE
  · refine j_aload_n C dX12_lookAt_16 0 rfl ?_
    refine g_X12_48_41 C dX12_lookAt_17 ?_
    refine j_aload_n C dX12_lookAt_20 0 rfl ?_
    refine g_X12_243_41 C dX12_lookAt_21 ?_
    refine l_53 C dX12_lookAt_24 hE (fun v1 hE => ?_)
    refine j_bipush (v := 32) C dX12_lookAt_25 jc_bp_32 ?_
    refine j_icmp_ne (tgt := 43) C dX12_lookAt_27 rfl hE (fun hE => ?_) (fun hE => ?_)
    · exact hk43  S hE
    · refine j_aload_n C dX12_lookAt_30 0 rfl ?_
      refine j_dup C dX12_lookAt_31 rfl ?_
      refine g_X12_243_41 C dX12_lookAt_32 ?_
      refine j_iconst (v := 1) C dX12_lookAt_35 jc_ic_1 ?_
      refine j_iadd C dX12_lookAt_36 ?_
      refine p_X12_243_41 C dX12_lookAt_37 hE (fun S2 hE => ?_)
      refine j_goto (tgt := 5) C dX12_lookAt_40 rfl ?_
      exact hg  S2 hE
theorem q_X12_lookAt_5 {X : jX} {D : va_G} {ad : Nat → Nat} {cy : Nat → ClassId} (C : jC X (jMain D ad cy) RX12 cX12_lookAt (none) 5 2 45) {z : jS} (Q : jRet X (jMain D ad cy) (none, z)) {k43 : jS → Option (jS)} (hk43 : ∀  (S : jS), k43  S = some z → jJ X (jMain D ad cy) 43 [(0, .ref (ad 41))] [] S)  (S : jS) (hE : lp_X12_lookAt_5  k43  S = some z) : jJ X (jMain D ad cy) 5 [(0, .ref (ad 41))] [] S :=
  jloop_P (α := jS) (B := (fun g q => f_X12_lookAt_5  (fun  S => g (S)) k43  q)) (P := fun q => jJ X (jMain D ad cy) 5 [(0, .ref (ad 41))] [] q) (fun g q hg h => p_X12_lookAt_5 C Q (g := fun  S => g (S)) (fun  S h => hg (S) h) hk43  q h) jN (S) hE
set_option maxRecDepth 100000 in
theorem p_X12_lookAt_208 {X : jX} {D : va_G} {ad : Nat → Nat} {cy : Nat → ClassId} (C : jC X (jMain D ad cy) RX12 cX12_lookAt (none) 5 2 45) {z : jS} (Q : jRet X (jMain D ad cy) (none, z)) {g : Int32 → jS → Option (jS)} (hg : ∀ (x3 : Int32) (S : jS), g x3 S = some z → jJ X (jMain D ad cy) 136 [(0, .ref (ad 41)), (3, .int x3)] [] S) {k215 : jS → Option (jS)} (hk215 : ∀  (S : jS), k215  S = some z → jJ X (jMain D ad cy) 215 [(0, .ref (ad 41))] [] S) (a0 : Int32) (a1 : Int32) (x3 : Int32) (S : jS) (hE : f_X12_lookAt_208  g k215 a0 a1 x3 S = some z) : jJ X (jMain D ad cy) 208 [(0, .ref (ad 41)), (3, .int x3)] [.int a0, .int a1, .ref (ad 41)] S := by
  unfold f_X12_lookAt_208 at hE
  refine j_iadd C dX12_lookAt_208 ?_
  refine p_X12_246_41 C dX12_lookAt_209 hE (fun S1 hE => ?_)
  refine j_goto (tgt := 136) C dX12_lookAt_212 rfl ?_
  exact hg x3 S1 hE
set_option maxRecDepth 100000 in
theorem p_X12_lookAt_193 {X : jX} {D : va_G} {ad : Nat → Nat} {cy : Nat → ClassId} (C : jC X (jMain D ad cy) RX12 cX12_lookAt (none) 5 2 45) {z : jS} (Q : jRet X (jMain D ad cy) (none, z)) {g : Int32 → jS → Option (jS)} (hg : ∀ (x3 : Int32) (S : jS), g x3 S = some z → jJ X (jMain D ad cy) 136 [(0, .ref (ad 41)), (3, .int x3)] [] S) {k215 : jS → Option (jS)} (hk215 : ∀  (S : jS), k215  S = some z → jJ X (jMain D ad cy) 215 [(0, .ref (ad 41))] [] S) (a0 : Int32) (S : jS) (hE : f_X12_lookAt_193  g k215 a0 S = some z) : jJ X (jMain D ad cy) 193 [(0, .ref (ad 41))] [.int a0] S := by
  unfold f_X12_lookAt_193 at hE
  refine j_istore_n (i := 3) (lv' := [(3, .int a0), (0, .ref (ad 41))]) C dX12_lookAt_193 rfl (by decide) rfl ?_
  refine j_aload_n C dX12_lookAt_194 1 rfl ?_
  refine j_dup C dX12_lookAt_195 rfl ?_
  refine g_X12_246_41 C dX12_lookAt_196 ?_
  refine j_iload_n C dX12_lookAt_199 0 rfl ?_
  refine j_if_eq (tgt := 207) C dX12_lookAt_200 rfl hE (fun hE => ?_) (fun hE => ?_)
  · refine j_iconst (v := 0) C dX12_lookAt_207 jc_ic_0 ?_
    refine j_sub [1, 0] rfl ?_
    exact p_X12_lookAt_208 C Q hg hk215 0 (S.1 41 20) a0 S hE
  · refine j_iconst (v := 1) C dX12_lookAt_203 jc_ic_1 ?_
    refine j_goto (tgt := 208) C dX12_lookAt_204 rfl ?_
    refine j_sub [1, 0] rfl ?_
    exact p_X12_lookAt_208 C Q hg hk215 1 (S.1 41 20) a0 S hE
set_option maxRecDepth 100000 in
theorem p_X12_lookAt_136 {X : jX} {D : va_G} {ad : Nat → Nat} {cy : Nat → ClassId} (C : jC X (jMain D ad cy) RX12 cX12_lookAt (none) 5 2 45) {z : jS} (Q : jRet X (jMain D ad cy) (none, z)) {g : Int32 → jS → Option (jS)} (hg : ∀ (x3 : Int32) (S : jS), g x3 S = some z → jJ X (jMain D ad cy) 136 [(0, .ref (ad 41)), (3, .int x3)] [] S) {k215 : jS → Option (jS)} (hk215 : ∀  (S : jS), k215  S = some z → jJ X (jMain D ad cy) 215 [(0, .ref (ad 41))] [] S) (x3 : Int32) (S : jS) (hE : f_X12_lookAt_136  g k215 x3 S = some z) : jJ X (jMain D ad cy) 136 [(0, .ref (ad 41)), (3, .int x3)] [] S := by
  unfold f_X12_lookAt_136 at hE
  refine j_iload_n C dX12_lookAt_136 1 rfl ?_
  refine j_if_eq (tgt := 215) C dX12_lookAt_137 rfl hE (fun hE => ?_) (fun hE => ?_)
  · refine j_sub [0] rfl ?_
    exact hk215  S hE
  · refine j_aload_n C dX12_lookAt_140 0 rfl ?_
    refine g_X12_243_41 C dX12_lookAt_141 ?_
    refine j_aload_n C dX12_lookAt_144 0 rfl ?_
    refine g_X12_246_41 C dX12_lookAt_145 ?_
    refine j_iadd C dX12_lookAt_148 ?_
    refine j_aload_n C dX12_lookAt_149 0 rfl ?_
    refine g_X12_232_41 C dX12_lookAt_150 ?_
    refine j_icmp_ge (tgt := 215) C dX12_lookAt_153 rfl hE (fun hE => ?_) (fun hE => ?_)
    · refine j_sub [0] rfl ?_
      exact hk215  S hE
    · refine j_aload_n C dX12_lookAt_156 0 rfl ?_
      refine g_X12_48_41 C dX12_lookAt_157 ?_
      refine j_aload_n C dX12_lookAt_160 0 rfl ?_
      refine g_X12_243_41 C dX12_lookAt_161 ?_
      refine j_aload_n C dX12_lookAt_164 0 rfl ?_
      refine g_X12_246_41 C dX12_lookAt_165 ?_
      refine j_iadd C dX12_lookAt_168 ?_
      refine l_53 C dX12_lookAt_169 hE (fun v1 hE => ?_)
      refine j_istore (lv' := [(4, .int v1), (0, .ref (ad 41)), (3, .int x3)]) C dX12_lookAt_170 (by decide) rfl ?_
      refine j_aload_n C dX12_lookAt_172 1 rfl ?_
      refine g_X12_249_41 C dX12_lookAt_173 ?_
      refine j_iconst (v := 1) C dX12_lookAt_176 jc_ic_1 ?_
      refine j_icmp_ne (tgt := 188) C dX12_lookAt_177 rfl hE (fun hE => ?_) (fun hE => ?_)
      · refine j_iload C dX12_lookAt_188 0 rfl ?_
        refine k_X12_258_X12_isFigure C dX12_lookAt_190 hE (Nat.le_of_ble_eq_true rfl) (Nat.le_of_ble_eq_true rfl) (Nat.le_of_ble_eq_true rfl) (fun v3 S2 hE => ?_)
        refine j_sub [1] rfl ?_
        exact p_X12_lookAt_193 C Q hg hk215 v3 S2 hE
      · refine j_iload C dX12_lookAt_180 0 rfl ?_
        refine k_X12_255_X12_isSmall C dX12_lookAt_182 hE (Nat.le_of_ble_eq_true rfl) (Nat.le_of_ble_eq_true rfl) (Nat.le_of_ble_eq_true rfl) (fun v5 S4 hE => ?_)
        refine j_goto (tgt := 193) C dX12_lookAt_185 rfl ?_
        refine j_sub [1] rfl ?_
        exact p_X12_lookAt_193 C Q hg hk215 v5 S4 hE
theorem q_X12_lookAt_136 {X : jX} {D : va_G} {ad : Nat → Nat} {cy : Nat → ClassId} (C : jC X (jMain D ad cy) RX12 cX12_lookAt (none) 5 2 45) {z : jS} (Q : jRet X (jMain D ad cy) (none, z)) {k215 : jS → Option (jS)} (hk215 : ∀  (S : jS), k215  S = some z → jJ X (jMain D ad cy) 215 [(0, .ref (ad 41))] [] S) (x3 : Int32) (S : jS) (hE : lp_X12_lookAt_136  k215 x3 S = some z) : jJ X (jMain D ad cy) 136 [(0, .ref (ad 41)), (3, .int x3)] [] S :=
  jloop_P (α := Int32 × jS) (B := (fun g q => f_X12_lookAt_136  (fun x3 S => g (x3, S)) k215 q.1 q.2)) (P := fun q => jJ X (jMain D ad cy) 136 [(0, .ref (ad 41)), (3, .int q.1)] [] q.2) (fun g q hg h => p_X12_lookAt_136 C Q (g := fun x3 S => g (x3, S)) (fun x3 S h => hg (x3, S) h) hk215 q.1 q.2 h) jN (x3, S) hE
set_option maxRecDepth 100000 in
theorem p_X12_lookAt_218 {X : jX} {D : va_G} {ad : Nat → Nat} {cy : Nat → ClassId} (C : jC X (jMain D ad cy) RX12 cX12_lookAt (none) 5 2 45) {z : jS} (Q : jRet X (jMain D ad cy) (none, z)) {g : Int32 → jS → Option (jS)} (hg : ∀ (x4 : Int32) (S : jS), g x4 S = some z → jJ X (jMain D ad cy) 218 [(0, .ref (ad 41)), (4, .int x4)] [] S) {k274 : jS → Option (jS)} (hk274 : ∀  (S : jS), k274  S = some z → jJ X (jMain D ad cy) 274 [(0, .ref (ad 41))] [] S) (x4 : Int32) (S : jS) (hE : f_X12_lookAt_218  g k274 x4 S = some z) : jJ X (jMain D ad cy) 218 [(0, .ref (ad 41)), (4, .int x4)] [] S := by
  unfold f_X12_lookAt_218 at hE
  refine j_iload C dX12_lookAt_218 1 rfl ?_
  refine j_aload_n C dX12_lookAt_220 0 rfl ?_
  refine g_X12_246_41 C dX12_lookAt_221 ?_
  refine j_icmp_ge (tgt := 274) C dX12_lookAt_224 rfl hE (fun hE => ?_) (fun hE => ?_)
  · refine j_sub [0] rfl ?_
    exact hk274  S hE
  · refine j_iload C dX12_lookAt_227 1 rfl ?_
    refine j_iconst (v := 3) C dX12_lookAt_229 jc_ic_3 ?_
    refine j_icmp_ge (tgt := 274) C dX12_lookAt_230 rfl hE (fun hE => ?_) (fun hE => ?_)
    · refine j_sub [0] rfl ?_
      exact hk274  S hE
    · refine j_aload_n C dX12_lookAt_233 0 rfl ?_
      refine g_X12_249_41 C dX12_lookAt_234 ?_
      refine j_iconst (v := 2) C dX12_lookAt_237 jc_ic_2 ?_
      refine j_icmp_ne (tgt := 274) C dX12_lookAt_238 rfl hE (fun hE => ?_) (fun hE => ?_)
      · refine j_sub [0] rfl ?_
        exact hk274  S hE
      · refine j_aload_n C dX12_lookAt_241 0 rfl ?_
        refine j_bipush (v := 10) C dX12_lookAt_242 jc_bp_10 ?_
        refine j_aload_n C dX12_lookAt_244 0 rfl ?_
        refine g_X12_252_41 C dX12_lookAt_245 ?_
        refine j_imul C dX12_lookAt_248 ?_
        refine j_aload_n C dX12_lookAt_249 0 rfl ?_
        refine g_X12_48_41 C dX12_lookAt_250 ?_
        refine j_aload_n C dX12_lookAt_253 0 rfl ?_
        refine g_X12_243_41 C dX12_lookAt_254 ?_
        refine j_iload C dX12_lookAt_257 1 rfl ?_
        refine j_iadd C dX12_lookAt_259 ?_
        refine l_53 C dX12_lookAt_260 hE (fun v1 hE => ?_)
        refine j_iadd C dX12_lookAt_261 ?_
        refine j_bipush (v := 48) C dX12_lookAt_262 jc_bp_48 ?_
        refine j_isub C dX12_lookAt_264 ?_
        refine p_X12_252_41 C dX12_lookAt_265 hE (fun S2 hE => ?_)
        refine j_iinc (v := (x4 + 1)) (lv' := [(4, .int (x4 + 1)), (0, .ref (ad 41))]) C dX12_lookAt_268 1 rfl (congrArg (fun w => x4 + w) jc_ic_1) (by decide) rfl ?_
        refine j_goto (tgt := 218) C dX12_lookAt_271 rfl ?_
        refine j_sub [1, 0] rfl ?_
        exact hg (x4 + 1) S2 hE
theorem q_X12_lookAt_218 {X : jX} {D : va_G} {ad : Nat → Nat} {cy : Nat → ClassId} (C : jC X (jMain D ad cy) RX12 cX12_lookAt (none) 5 2 45) {z : jS} (Q : jRet X (jMain D ad cy) (none, z)) {k274 : jS → Option (jS)} (hk274 : ∀  (S : jS), k274  S = some z → jJ X (jMain D ad cy) 274 [(0, .ref (ad 41))] [] S) (x4 : Int32) (S : jS) (hE : lp_X12_lookAt_218  k274 x4 S = some z) : jJ X (jMain D ad cy) 218 [(0, .ref (ad 41)), (4, .int x4)] [] S :=
  jloop_P (α := Int32 × jS) (B := (fun g q => f_X12_lookAt_218  (fun x4 S => g (x4, S)) k274 q.1 q.2)) (P := fun q => jJ X (jMain D ad cy) 218 [(0, .ref (ad 41)), (4, .int q.1)] [] q.2) (fun g q hg h => p_X12_lookAt_218 C Q (g := fun x4 S => g (x4, S)) (fun x4 S h => hg (x4, S) h) hk274 q.1 q.2 h) jN (x4, S) hE
set_option maxRecDepth 100000 in
theorem p_X12_lookAt_299 {X : jX} {D : va_G} {ad : Nat → Nat} {cy : Nat → ClassId} (C : jC X (jMain D ad cy) RX12 cX12_lookAt (none) 5 2 45) {z : jS} (Q : jRet X (jMain D ad cy) (none, z))  (a0 : Int32) (S : jS) (hE : f_X12_lookAt_299   a0 S = some z) : jJ X (jMain D ad cy) 299 [] [.int a0, .ref (ad 41)] S := by
  unfold f_X12_lookAt_299 at hE
  refine p_X12_249_41 C dX12_lookAt_299 hE (fun S1 hE => ?_)
  exact j_vret C Q dX12_lookAt_302 hE
set_option maxRecDepth 100000 in
theorem p_X12_lookAt_295 {X : jX} {D : va_G} {ad : Nat → Nat} {cy : Nat → ClassId} (C : jC X (jMain D ad cy) RX12 cX12_lookAt (none) 5 2 45) {z : jS} (Q : jRet X (jMain D ad cy) (none, z))   (S : jS) (hE : f_X12_lookAt_295    S = some z) : jJ X (jMain D ad cy) 295 [(0, .ref (ad 41))] [.ref (ad 41)] S := by
  unfold f_X12_lookAt_295 at hE
  refine j_aload_n C dX12_lookAt_295 0 rfl ?_
  refine g_X12_249_41 C dX12_lookAt_296 ?_
  refine j_sub [] rfl ?_
  exact p_X12_lookAt_299 C Q  (S.1 41 21) S hE
set_option maxRecDepth 100000 in
theorem p_X12_lookAt_274 {X : jX} {D : va_G} {ad : Nat → Nat} {cy : Nat → ClassId} (C : jC X (jMain D ad cy) RX12 cX12_lookAt (none) 5 2 45) {z : jS} (Q : jRet X (jMain D ad cy) (none, z))   (S : jS) (hE : f_X12_lookAt_274    S = some z) : jJ X (jMain D ad cy) 274 [(0, .ref (ad 41))] [] S := by
  unfold f_X12_lookAt_274 at hE
  refine j_aload_n C dX12_lookAt_274 0 rfl ?_
  refine j_aload_n C dX12_lookAt_275 0 rfl ?_
  refine g_X12_249_41 C dX12_lookAt_276 ?_
  refine j_iconst (v := 2) C dX12_lookAt_279 jc_ic_2 ?_
  refine j_icmp_ne (tgt := 295) C dX12_lookAt_280 rfl hE (fun hE => ?_) (fun hE => ?_)
  · exact p_X12_lookAt_295 C Q   S hE
  · refine j_aload_n C dX12_lookAt_283 0 rfl ?_
    refine g_X12_246_41 C dX12_lookAt_284 ?_
    refine j_iconst (v := 3) C dX12_lookAt_287 jc_ic_3 ?_
    refine j_icmp_le (tgt := 295) C dX12_lookAt_288 rfl hE (fun hE => ?_) (fun hE => ?_)
    · exact p_X12_lookAt_295 C Q   S hE
    · refine j_iconst (v := 4) C dX12_lookAt_291 jc_ic_4 ?_
      refine j_goto (tgt := 299) C dX12_lookAt_292 rfl ?_
      refine j_sub [] rfl ?_
      exact p_X12_lookAt_299 C Q  4 S hE
set_option maxRecDepth 100000 in
theorem p_X12_lookAt_215 {X : jX} {D : va_G} {ad : Nat → Nat} {cy : Nat → ClassId} (C : jC X (jMain D ad cy) RX12 cX12_lookAt (none) 5 2 45) {z : jS} (Q : jRet X (jMain D ad cy) (none, z))   (S : jS) (hE : f_X12_lookAt_215    S = some z) : jJ X (jMain D ad cy) 215 [(0, .ref (ad 41))] [] S := by
  unfold f_X12_lookAt_215 at hE
  refine j_iconst (v := 0) C dX12_lookAt_215 jc_ic_0 ?_
  refine j_istore (lv' := [(4, .int 0), (0, .ref (ad 41))]) C dX12_lookAt_216 (by decide) rfl ?_
  refine j_sub [1, 0] rfl ?_
  exact q_X12_lookAt_218 C Q (p_X12_lookAt_274 C Q ) 0 S hE
set_option maxRecDepth 100000 in
theorem p_X12_lookAt_135 {X : jX} {D : va_G} {ad : Nat → Nat} {cy : Nat → ClassId} (C : jC X (jMain D ad cy) RX12 cX12_lookAt (none) 5 2 45) {z : jS} (Q : jRet X (jMain D ad cy) (none, z))  (a0 : Int32) (S : jS) (hE : f_X12_lookAt_135   a0 S = some z) : jJ X (jMain D ad cy) 135 [(0, .ref (ad 41))] [.int a0] S := by
  unfold f_X12_lookAt_135 at hE
  refine j_istore_n (i := 3) (lv' := [(3, .int a0), (0, .ref (ad 41))]) C dX12_lookAt_135 rfl (by decide) rfl ?_
  refine j_sub [1, 0] rfl ?_
  exact q_X12_lookAt_136 C Q (p_X12_lookAt_215 C Q ) a0 S hE
set_option maxRecDepth 100000 in
theorem p_X12_lookAt_114 {X : jX} {D : va_G} {ad : Nat → Nat} {cy : Nat → ClassId} (C : jC X (jMain D ad cy) RX12 cX12_lookAt (none) 5 2 45) {z : jS} (Q : jRet X (jMain D ad cy) (none, z))  (a0 : Int32) (S : jS) (hE : f_X12_lookAt_114   a0 S = some z) : jJ X (jMain D ad cy) 114 [(0, .ref (ad 41))] [.int a0, .ref (ad 41)] S := by
  unfold f_X12_lookAt_114 at hE
  refine p_X12_249_41 C dX12_lookAt_114 hE (fun S1 hE => ?_)
  refine j_aload_n C dX12_lookAt_117 0 rfl ?_
  refine j_iconst (v := 1) C dX12_lookAt_118 jc_ic_1 ?_
  refine p_X12_246_41 C dX12_lookAt_119 hE (fun S2 hE => ?_)
  refine j_aload_n C dX12_lookAt_122 0 rfl ?_
  refine g_X12_249_41 C dX12_lookAt_123 ?_
  refine j_iconst (v := 3) C dX12_lookAt_126 jc_ic_3 ?_
  refine j_icmp_ge (tgt := 134) C dX12_lookAt_127 rfl hE (fun hE => ?_) (fun hE => ?_)
  · refine j_iconst (v := 0) C dX12_lookAt_134 jc_ic_0 ?_
    exact p_X12_lookAt_135 C Q  0 S2 hE
  · refine j_iconst (v := 1) C dX12_lookAt_130 jc_ic_1 ?_
    refine j_goto (tgt := 135) C dX12_lookAt_131 rfl ?_
    exact p_X12_lookAt_135 C Q  1 S2 hE
set_option maxRecDepth 100000 in
theorem p_X12_lookAt_43 {X : jX} {D : va_G} {ad : Nat → Nat} {cy : Nat → ClassId} (C : jC X (jMain D ad cy) RX12 cX12_lookAt (none) 5 2 45) {z : jS} (Q : jRet X (jMain D ad cy) (none, z))   (S : jS) (hE : f_X12_lookAt_43    S = some z) : jJ X (jMain D ad cy) 43 [(0, .ref (ad 41))] [] S := by
  unfold f_X12_lookAt_43 at hE
  refine j_aload_n C dX12_lookAt_43 0 rfl ?_
  refine j_iconst (v := 0) C dX12_lookAt_44 jc_ic_0 ?_
  refine p_X12_246_41 C dX12_lookAt_45 hE (fun S1 hE => ?_)
  refine j_aload_n C dX12_lookAt_48 0 rfl ?_
  refine j_iconst (v := 0) C dX12_lookAt_49 jc_ic_0 ?_
  refine p_X12_249_41 C dX12_lookAt_50 hE (fun S2 hE => ?_)
  refine j_aload_n C dX12_lookAt_53 0 rfl ?_
  refine j_iconst (v := 0) C dX12_lookAt_54 jc_ic_0 ?_
  refine p_X12_252_41 C dX12_lookAt_55 hE (fun S3 hE => ?_)
  refine j_aload_n C dX12_lookAt_58 0 rfl ?_
  refine g_X12_243_41 C dX12_lookAt_59 ?_
  refine j_aload_n C dX12_lookAt_62 0 rfl ?_
  refine g_X12_232_41 C dX12_lookAt_63 ?_
  refine j_icmp_ne (tgt := 70) C dX12_lookAt_66 rfl hE (fun hE => ?_) (fun hE => ?_)
  · refine j_aload_n C dX12_lookAt_70 0 rfl ?_
    refine g_X12_48_41 C dX12_lookAt_71 ?_
    refine j_aload_n C dX12_lookAt_74 0 rfl ?_
    refine g_X12_243_41 C dX12_lookAt_75 ?_
    refine l_53 C dX12_lookAt_78 hE (fun v4 hE => ?_)
    refine j_istore_n (i := 2) (lv' := [(2, .int v4), (0, .ref (ad 41))]) C dX12_lookAt_79 rfl (by decide) rfl ?_
    refine j_aload_n C dX12_lookAt_80 1 rfl ?_
    refine j_iload_n C dX12_lookAt_81 0 rfl ?_
    refine k_X12_255_X12_isSmall C dX12_lookAt_82 hE (Nat.le_of_ble_eq_true rfl) (Nat.le_of_ble_eq_true rfl) (Nat.le_of_ble_eq_true rfl) (fun v6 S5 hE => ?_)
    refine j_if_eq (tgt := 92) C dX12_lookAt_85 rfl hE (fun hE => ?_) (fun hE => ?_)
    · refine j_iload_n C dX12_lookAt_92 0 rfl ?_
      refine k_X12_258_X12_isFigure C dX12_lookAt_93 hE (Nat.le_of_ble_eq_true rfl) (Nat.le_of_ble_eq_true rfl) (Nat.le_of_ble_eq_true rfl) (fun v8 S7 hE => ?_)
      refine j_if_eq (tgt := 103) C dX12_lookAt_96 rfl hE (fun hE => ?_) (fun hE => ?_)
      · refine j_iload_n C dX12_lookAt_103 0 rfl ?_
        refine j_bipush (v := 59) C dX12_lookAt_104 jc_bp_59 ?_
        refine j_icmp_ne (tgt := 113) C dX12_lookAt_106 rfl hE (fun hE => ?_) (fun hE => ?_)
        · refine j_iconst (v := 4) C dX12_lookAt_113 jc_ic_4 ?_
          refine j_sub [1] rfl ?_
          exact p_X12_lookAt_114 C Q  4 S7 hE
        · refine j_iconst (v := 3) C dX12_lookAt_109 jc_ic_3 ?_
          refine j_goto (tgt := 114) C dX12_lookAt_110 rfl ?_
          refine j_sub [1] rfl ?_
          exact p_X12_lookAt_114 C Q  3 S7 hE
      · refine j_iconst (v := 2) C dX12_lookAt_99 jc_ic_2 ?_
        refine j_goto (tgt := 114) C dX12_lookAt_100 rfl ?_
        refine j_sub [1] rfl ?_
        exact p_X12_lookAt_114 C Q  2 S7 hE
    · refine j_iconst (v := 1) C dX12_lookAt_88 jc_ic_1 ?_
      refine j_goto (tgt := 114) C dX12_lookAt_89 rfl ?_
      refine j_sub [1] rfl ?_
      exact p_X12_lookAt_114 C Q  1 S5 hE
  · exact j_vret C Q dX12_lookAt_69 hE
set_option maxRecDepth 100000 in
theorem p_X12_lookAt_e {X : jX} {D : va_G} {ad : Nat → Nat} {cy : Nat → ClassId} (C : jC X (jMain D ad cy) RX12 cX12_lookAt (none) 5 2 45) {z : jS} (Q : jRet X (jMain D ad cy) (none, z))  (x1 : Int32) (S : jS) (hE : f_X12_lookAt_e   x1 S = some z) : jJ X (jMain D ad cy) 0 [(0, .ref (ad 41)), (1, .int x1)] [] S := by
  unfold f_X12_lookAt_e at hE
  refine j_aload_n C dX12_lookAt_0 0 rfl ?_
  refine j_iload_n C dX12_lookAt_1 1 rfl ?_
  refine p_X12_243_41 C dX12_lookAt_2 hE (fun S1 hE => ?_)
  refine j_sub [0] rfl ?_
  exact q_X12_lookAt_5 C Q (p_X12_lookAt_43 C Q )  S1 hE
theorem c_X12_lookAt {l : Launch} {D : va_G} {ad : Nat → Nat} {cy : Nat → ClassId} (hO : jOk (jMain D ad cy)) (x1 : Int32) (S : jS) {z : jS} (hz : f_X12_lookAt x1 S = some z) : Met l yX12_lookAt (.code yX12_lookAt cX12_lookAt 5 (none) :: jT) { frames := 2, cells := 0, slots := 0, locals := 45 } (va_Pc [.ref (ad 41), .int x1] (jInv (jMain D ad cy) S)) (jQ (jMain D ad cy) (none, z)) 0 0 (yA (jMain D ad cy)) :=
  jMet hO (by decide +kernel) rfl (Nat.le_of_ble_eq_true rfl) (fun X _ C Q => p_X12_lookAt_e C Q x1 S hz)
theorem k_X12_261_X12_lookAt {X : jX} {D : va_G} {ad : Nat → Nat} {cy : Nat → ClassId} {cc : ByteArray} {ret : Option FieldType} {nL fr lo pc : Nat} {lv : List (Nat × Value)} {st : List Value} {S : jS} {β : Type} {z : β} (C : jC X (jMain D ad cy) RX12 cc ret nL fr lo) {a0 : Int32} {E : jS → Option β} (d : decode cc pc = .ok (.invokevirtual 261, 3)) (hE : jcv (f_X12_lookAt a0 S) E = some z) (hfr : 3 ≤ fr) (hlo : 69 ≤ lo) (hst : (st.map fun v => v.category).sum ≤ 8) (K : ∀ S1, E S1 = some z → jJ X (jMain D ad cy) (pc + 3) lv st S1) : jJ X (jMain D ad cy) pc lv (.int a0 :: .ref (ad 41) :: st) S := by
  obtain ⟨v, h1, h2⟩ := jcv_some hE
  exact j_callV (k := 41) (ci := 12) (T := TX12) (N := 25) (n := 1) (As := [.int a0]) C (c_X12_lookAt C.2.2.2.2.2.2.1 a0 S h1) tw_1227 tw_1229 tw_61 tw_81 tw_1230 (by decide +kernel) rfl (by decide : 41 < 56) rfl rfl hfr hlo hst rfl d (K _ h2)
set_option maxRecDepth 100000 in
theorem p_X12_isWord_111 {X : jX} {D : va_G} {ad : Nat → Nat} {cy : Nat → ClassId} (C : jC X (jMain D ad cy) RX12 cX12_isWord (some .boolean) 10 0 0) {z : Int32 × jS} (Q : jRet X (jMain D ad cy) (some (.int z.1), z.2)) {g : Int32 → Int32 → Int32 → Int32 → Int32 → Int32 → Int32 → Int32 → Int32 → jS → Option (Int32 × jS)} (hg : ∀ (x1 : Int32) (x2 : Int32) (x3 : Int32) (x4 : Int32) (x5 : Int32) (x6 : Int32) (x7 : Int32) (x8 : Int32) (x9 : Int32) (S : jS), g x1 x2 x3 x4 x5 x6 x7 x8 x9 S = some z → jJ X (jMain D ad cy) 26 [(0, .ref (ad 41)), (1, .int x1), (2, .int x2), (3, .int x3), (4, .int x4), (5, .int x5), (6, .int x6), (7, .int x7), (8, .int x8), (9, .int x9)] [] S) {k119 : Int32 → jS → Option (Int32 × jS)} (hk119 : ∀ (x8 : Int32) (S : jS), k119 x8 S = some z → jJ X (jMain D ad cy) 119 [(8, .int x8)] [] S) (a0 : Int32) (x1 : Int32) (x2 : Int32) (x3 : Int32) (x4 : Int32) (x5 : Int32) (x6 : Int32) (x7 : Int32) (x9 : Int32) (S : jS) (hE : f_X12_isWord_111  g k119 a0 x1 x2 x3 x4 x5 x6 x7 x9 S = some z) : jJ X (jMain D ad cy) 111 [(0, .ref (ad 41)), (1, .int x1), (2, .int x2), (3, .int x3), (4, .int x4), (5, .int x5), (6, .int x6), (7, .int x7), (9, .int x9)] [.int a0] S := by
  unfold f_X12_isWord_111 at hE
  refine j_istore (lv' := [(8, .int a0), (0, .ref (ad 41)), (1, .int x1), (2, .int x2), (3, .int x3), (4, .int x4), (5, .int x5), (6, .int x6), (7, .int x7), (9, .int x9)]) C dX12_isWord_111 (by decide) rfl ?_
  refine j_iinc (v := (x9 + 1)) (lv' := [(9, .int (x9 + 1)), (8, .int a0), (0, .ref (ad 41)), (1, .int x1), (2, .int x2), (3, .int x3), (4, .int x4), (5, .int x5), (6, .int x6), (7, .int x7)]) C dX12_isWord_113 9 rfl (congrArg (fun w => x9 + w) jc_ic_1) (by decide) rfl ?_
  refine j_goto (tgt := 26) C dX12_isWord_116 rfl ?_
  refine j_sub [2, 3, 4, 5, 6, 7, 8, 9, 1, 0] rfl ?_
  exact hg x1 x2 x3 x4 x5 x6 x7 a0 (x9 + 1) S hE
set_option maxRecDepth 100000 in
theorem p_X12_isWord_103 {X : jX} {D : va_G} {ad : Nat → Nat} {cy : Nat → ClassId} (C : jC X (jMain D ad cy) RX12 cX12_isWord (some .boolean) 10 0 0) {z : Int32 × jS} (Q : jRet X (jMain D ad cy) (some (.int z.1), z.2)) {g : Int32 → Int32 → Int32 → Int32 → Int32 → Int32 → Int32 → Int32 → Int32 → jS → Option (Int32 × jS)} (hg : ∀ (x1 : Int32) (x2 : Int32) (x3 : Int32) (x4 : Int32) (x5 : Int32) (x6 : Int32) (x7 : Int32) (x8 : Int32) (x9 : Int32) (S : jS), g x1 x2 x3 x4 x5 x6 x7 x8 x9 S = some z → jJ X (jMain D ad cy) 26 [(0, .ref (ad 41)), (1, .int x1), (2, .int x2), (3, .int x3), (4, .int x4), (5, .int x5), (6, .int x6), (7, .int x7), (8, .int x8), (9, .int x9)] [] S) {k119 : Int32 → jS → Option (Int32 × jS)} (hk119 : ∀ (x8 : Int32) (S : jS), k119 x8 S = some z → jJ X (jMain D ad cy) 119 [(8, .int x8)] [] S) (a0 : Int32) (a1 : Int32) (x1 : Int32) (x2 : Int32) (x3 : Int32) (x4 : Int32) (x5 : Int32) (x6 : Int32) (x7 : Int32) (x9 : Int32) (S : jS) (hE : f_X12_isWord_103  g k119 a0 a1 x1 x2 x3 x4 x5 x6 x7 x9 S = some z) : jJ X (jMain D ad cy) 103 [(0, .ref (ad 41)), (1, .int x1), (2, .int x2), (3, .int x3), (4, .int x4), (5, .int x5), (6, .int x6), (7, .int x7), (9, .int x9)] [.int a0, .int a1] S := by
  unfold f_X12_isWord_103 at hE
  refine j_icmp_ne (tgt := 110) C dX12_isWord_103 rfl hE (fun hE => ?_) (fun hE => ?_)
  · refine j_iconst (v := 0) C dX12_isWord_110 jc_ic_0 ?_
    exact p_X12_isWord_111 C Q hg hk119 0 x1 x2 x3 x4 x5 x6 x7 x9 S hE
  · refine j_iconst (v := 1) C dX12_isWord_106 jc_ic_1 ?_
    refine j_goto (tgt := 111) C dX12_isWord_107 rfl ?_
    exact p_X12_isWord_111 C Q hg hk119 1 x1 x2 x3 x4 x5 x6 x7 x9 S hE
set_option maxRecDepth 100000 in
theorem p_X12_isWord_26 {X : jX} {D : va_G} {ad : Nat → Nat} {cy : Nat → ClassId} (C : jC X (jMain D ad cy) RX12 cX12_isWord (some .boolean) 10 0 0) {z : Int32 × jS} (Q : jRet X (jMain D ad cy) (some (.int z.1), z.2)) {g : Int32 → Int32 → Int32 → Int32 → Int32 → Int32 → Int32 → Int32 → Int32 → jS → Option (Int32 × jS)} (hg : ∀ (x1 : Int32) (x2 : Int32) (x3 : Int32) (x4 : Int32) (x5 : Int32) (x6 : Int32) (x7 : Int32) (x8 : Int32) (x9 : Int32) (S : jS), g x1 x2 x3 x4 x5 x6 x7 x8 x9 S = some z → jJ X (jMain D ad cy) 26 [(0, .ref (ad 41)), (1, .int x1), (2, .int x2), (3, .int x3), (4, .int x4), (5, .int x5), (6, .int x6), (7, .int x7), (8, .int x8), (9, .int x9)] [] S) {k119 : Int32 → jS → Option (Int32 × jS)} (hk119 : ∀ (x8 : Int32) (S : jS), k119 x8 S = some z → jJ X (jMain D ad cy) 119 [(8, .int x8)] [] S) (x1 : Int32) (x2 : Int32) (x3 : Int32) (x4 : Int32) (x5 : Int32) (x6 : Int32) (x7 : Int32) (x8 : Int32) (x9 : Int32) (S : jS) (hE : f_X12_isWord_26  g k119 x1 x2 x3 x4 x5 x6 x7 x8 x9 S = some z) : jJ X (jMain D ad cy) 26 [(0, .ref (ad 41)), (1, .int x1), (2, .int x2), (3, .int x3), (4, .int x4), (5, .int x5), (6, .int x6), (7, .int x7), (8, .int x8), (9, .int x9)] [] S := by
  unfold f_X12_isWord_26 at hE
  refine j_iload C dX12_isWord_26 9 rfl ?_
  refine j_iload_n C dX12_isWord_28 1 rfl ?_
  refine j_icmp_ge (tgt := 119) C dX12_isWord_29 rfl hE (fun hE => ?_) (fun hE => ?_)
  · refine j_sub [8] rfl ?_
    exact hk119 x8 S hE
  · refine j_iload C dX12_isWord_32 8 rfl ?_
    refine j_if_eq (tgt := 119) C dX12_isWord_34 rfl hE (fun hE => ?_) (fun hE => ?_)
    · refine j_sub [8] rfl ?_
      exact hk119 x8 S hE
    · refine j_aload_n C dX12_isWord_37 0 rfl ?_
      refine g_X12_48_41 C dX12_isWord_38 ?_
      refine j_aload_n C dX12_isWord_41 0 rfl ?_
      refine g_X12_243_41 C dX12_isWord_42 ?_
      refine j_iload C dX12_isWord_45 9 rfl ?_
      refine j_iadd C dX12_isWord_47 ?_
      refine l_53 C dX12_isWord_48 hE (fun v1 hE => ?_)
      refine j_iload C dX12_isWord_49 9 rfl ?_
      refine j_if_ne (tgt := 58) C dX12_isWord_51 rfl hE (fun hE => ?_) (fun hE => ?_)
      · refine j_iload C dX12_isWord_58 9 rfl ?_
        refine j_iconst (v := 1) C dX12_isWord_60 jc_ic_1 ?_
        refine j_icmp_ne (tgt := 68) C dX12_isWord_61 rfl hE (fun hE => ?_) (fun hE => ?_)
        · refine j_iload C dX12_isWord_68 9 rfl ?_
          refine j_iconst (v := 2) C dX12_isWord_70 jc_ic_2 ?_
          refine j_icmp_ne (tgt := 79) C dX12_isWord_71 rfl hE (fun hE => ?_) (fun hE => ?_)
          · refine j_iload C dX12_isWord_79 9 rfl ?_
            refine j_iconst (v := 3) C dX12_isWord_81 jc_ic_3 ?_
            refine j_icmp_ne (tgt := 90) C dX12_isWord_82 rfl hE (fun hE => ?_) (fun hE => ?_)
            · refine j_iload C dX12_isWord_90 9 rfl ?_
              refine j_iconst (v := 4) C dX12_isWord_92 jc_ic_4 ?_
              refine j_icmp_ne (tgt := 101) C dX12_isWord_93 rfl hE (fun hE => ?_) (fun hE => ?_)
              · refine j_iload C dX12_isWord_101 7 rfl ?_
                refine j_sub [0, 1, 2, 3, 4, 5, 6, 7, 9] rfl ?_
                exact p_X12_isWord_103 C Q hg hk119 x7 v1 x1 x2 x3 x4 x5 x6 x7 x9 S hE
              · refine j_iload C dX12_isWord_96 6 rfl ?_
                refine j_goto (tgt := 103) C dX12_isWord_98 rfl ?_
                refine j_sub [0, 1, 2, 3, 4, 5, 6, 7, 9] rfl ?_
                exact p_X12_isWord_103 C Q hg hk119 x6 v1 x1 x2 x3 x4 x5 x6 x7 x9 S hE
            · refine j_iload C dX12_isWord_85 5 rfl ?_
              refine j_goto (tgt := 103) C dX12_isWord_87 rfl ?_
              refine j_sub [0, 1, 2, 3, 4, 5, 6, 7, 9] rfl ?_
              exact p_X12_isWord_103 C Q hg hk119 x5 v1 x1 x2 x3 x4 x5 x6 x7 x9 S hE
          · refine j_iload C dX12_isWord_74 4 rfl ?_
            refine j_goto (tgt := 103) C dX12_isWord_76 rfl ?_
            refine j_sub [0, 1, 2, 3, 4, 5, 6, 7, 9] rfl ?_
            exact p_X12_isWord_103 C Q hg hk119 x4 v1 x1 x2 x3 x4 x5 x6 x7 x9 S hE
        · refine j_iload_n C dX12_isWord_64 3 rfl ?_
          refine j_goto (tgt := 103) C dX12_isWord_65 rfl ?_
          refine j_sub [0, 1, 2, 3, 4, 5, 6, 7, 9] rfl ?_
          exact p_X12_isWord_103 C Q hg hk119 x3 v1 x1 x2 x3 x4 x5 x6 x7 x9 S hE
      · refine j_iload_n C dX12_isWord_54 2 rfl ?_
        refine j_goto (tgt := 103) C dX12_isWord_55 rfl ?_
        refine j_sub [0, 1, 2, 3, 4, 5, 6, 7, 9] rfl ?_
        exact p_X12_isWord_103 C Q hg hk119 x2 v1 x1 x2 x3 x4 x5 x6 x7 x9 S hE
theorem q_X12_isWord_26 {X : jX} {D : va_G} {ad : Nat → Nat} {cy : Nat → ClassId} (C : jC X (jMain D ad cy) RX12 cX12_isWord (some .boolean) 10 0 0) {z : Int32 × jS} (Q : jRet X (jMain D ad cy) (some (.int z.1), z.2)) {k119 : Int32 → jS → Option (Int32 × jS)} (hk119 : ∀ (x8 : Int32) (S : jS), k119 x8 S = some z → jJ X (jMain D ad cy) 119 [(8, .int x8)] [] S) (x1 : Int32) (x2 : Int32) (x3 : Int32) (x4 : Int32) (x5 : Int32) (x6 : Int32) (x7 : Int32) (x8 : Int32) (x9 : Int32) (S : jS) (hE : lp_X12_isWord_26  k119 x1 x2 x3 x4 x5 x6 x7 x8 x9 S = some z) : jJ X (jMain D ad cy) 26 [(0, .ref (ad 41)), (1, .int x1), (2, .int x2), (3, .int x3), (4, .int x4), (5, .int x5), (6, .int x6), (7, .int x7), (8, .int x8), (9, .int x9)] [] S :=
  jloop_P (α := Int32 × Int32 × Int32 × Int32 × Int32 × Int32 × Int32 × Int32 × Int32 × jS) (B := (fun g q => f_X12_isWord_26  (fun x1 x2 x3 x4 x5 x6 x7 x8 x9 S => g (x1, x2, x3, x4, x5, x6, x7, x8, x9, S)) k119 q.1 q.2.1 q.2.2.1 q.2.2.2.1 q.2.2.2.2.1 q.2.2.2.2.2.1 q.2.2.2.2.2.2.1 q.2.2.2.2.2.2.2.1 q.2.2.2.2.2.2.2.2.1 q.2.2.2.2.2.2.2.2.2)) (P := fun q => jJ X (jMain D ad cy) 26 [(0, .ref (ad 41)), (1, .int q.1), (2, .int q.2.1), (3, .int q.2.2.1), (4, .int q.2.2.2.1), (5, .int q.2.2.2.2.1), (6, .int q.2.2.2.2.2.1), (7, .int q.2.2.2.2.2.2.1), (8, .int q.2.2.2.2.2.2.2.1), (9, .int q.2.2.2.2.2.2.2.2.1)] [] q.2.2.2.2.2.2.2.2.2) (fun g q hg h => p_X12_isWord_26 C Q (g := fun x1 x2 x3 x4 x5 x6 x7 x8 x9 S => g (x1, x2, x3, x4, x5, x6, x7, x8, x9, S)) (fun x1 x2 x3 x4 x5 x6 x7 x8 x9 S h => hg (x1, x2, x3, x4, x5, x6, x7, x8, x9, S) h) hk119 q.1 q.2.1 q.2.2.1 q.2.2.2.1 q.2.2.2.2.1 q.2.2.2.2.2.1 q.2.2.2.2.2.2.1 q.2.2.2.2.2.2.2.1 q.2.2.2.2.2.2.2.2.1 q.2.2.2.2.2.2.2.2.2 h) jN (x1, x2, x3, x4, x5, x6, x7, x8, x9, S) hE
set_option maxRecDepth 100000 in
theorem p_X12_isWord_119 {X : jX} {D : va_G} {ad : Nat → Nat} {cy : Nat → ClassId} (C : jC X (jMain D ad cy) RX12 cX12_isWord (some .boolean) 10 0 0) {z : Int32 × jS} (Q : jRet X (jMain D ad cy) (some (.int z.1), z.2))  (x8 : Int32) (S : jS) (hE : f_X12_isWord_119   x8 S = some z) : jJ X (jMain D ad cy) 119 [(8, .int x8)] [] S := by
  unfold f_X12_isWord_119 at hE
  refine j_iload C dX12_isWord_119 0 rfl ?_
  exact j_zret C Q dX12_isWord_121 hE
set_option maxRecDepth 100000 in
theorem p_X12_isWord_21 {X : jX} {D : va_G} {ad : Nat → Nat} {cy : Nat → ClassId} (C : jC X (jMain D ad cy) RX12 cX12_isWord (some .boolean) 10 0 0) {z : Int32 × jS} (Q : jRet X (jMain D ad cy) (some (.int z.1), z.2))  (a0 : Int32) (x1 : Int32) (x2 : Int32) (x3 : Int32) (x4 : Int32) (x5 : Int32) (x6 : Int32) (x7 : Int32) (S : jS) (hE : f_X12_isWord_21   a0 x1 x2 x3 x4 x5 x6 x7 S = some z) : jJ X (jMain D ad cy) 21 [(0, .ref (ad 41)), (1, .int x1), (2, .int x2), (3, .int x3), (4, .int x4), (5, .int x5), (6, .int x6), (7, .int x7)] [.int a0] S := by
  unfold f_X12_isWord_21 at hE
  refine j_istore (lv' := [(8, .int a0), (0, .ref (ad 41)), (1, .int x1), (2, .int x2), (3, .int x3), (4, .int x4), (5, .int x5), (6, .int x6), (7, .int x7)]) C dX12_isWord_21 (by decide) rfl ?_
  refine j_iconst (v := 0) C dX12_isWord_23 jc_ic_0 ?_
  refine j_istore (lv' := [(9, .int 0), (8, .int a0), (0, .ref (ad 41)), (1, .int x1), (2, .int x2), (3, .int x3), (4, .int x4), (5, .int x5), (6, .int x6), (7, .int x7)]) C dX12_isWord_24 (by decide) rfl ?_
  refine j_sub [2, 3, 4, 5, 6, 7, 8, 9, 1, 0] rfl ?_
  exact q_X12_isWord_26 C Q (p_X12_isWord_119 C Q ) x1 x2 x3 x4 x5 x6 x7 a0 0 S hE
set_option maxRecDepth 100000 in
theorem p_X12_isWord_20 {X : jX} {D : va_G} {ad : Nat → Nat} {cy : Nat → ClassId} (C : jC X (jMain D ad cy) RX12 cX12_isWord (some .boolean) 10 0 0) {z : Int32 × jS} (Q : jRet X (jMain D ad cy) (some (.int z.1), z.2))  (x1 : Int32) (x2 : Int32) (x3 : Int32) (x4 : Int32) (x5 : Int32) (x6 : Int32) (x7 : Int32) (S : jS) (hE : f_X12_isWord_20   x1 x2 x3 x4 x5 x6 x7 S = some z) : jJ X (jMain D ad cy) 20 [(0, .ref (ad 41)), (1, .int x1), (2, .int x2), (3, .int x3), (4, .int x4), (5, .int x5), (6, .int x6), (7, .int x7)] [] S := by
  unfold f_X12_isWord_20 at hE
  refine j_iconst (v := 0) C dX12_isWord_20 jc_ic_0 ?_
  exact p_X12_isWord_21 C Q  0 x1 x2 x3 x4 x5 x6 x7 S hE
set_option maxRecDepth 100000 in
theorem p_X12_isWord_e {X : jX} {D : va_G} {ad : Nat → Nat} {cy : Nat → ClassId} (C : jC X (jMain D ad cy) RX12 cX12_isWord (some .boolean) 10 0 0) {z : Int32 × jS} (Q : jRet X (jMain D ad cy) (some (.int z.1), z.2))  (x1 : Int32) (x2 : Int32) (x3 : Int32) (x4 : Int32) (x5 : Int32) (x6 : Int32) (x7 : Int32) (S : jS) (hE : f_X12_isWord_e   x1 x2 x3 x4 x5 x6 x7 S = some z) : jJ X (jMain D ad cy) 0 [(0, .ref (ad 41)), (1, .int x1), (2, .int x2), (3, .int x3), (4, .int x4), (5, .int x5), (6, .int x6), (7, .int x7)] [] S := by
  unfold f_X12_isWord_e at hE
  refine j_aload_n C dX12_isWord_0 0 rfl ?_
  refine g_X12_249_41 C dX12_isWord_1 ?_
  refine j_iconst (v := 1) C dX12_isWord_4 jc_ic_1 ?_
  refine j_icmp_ne (tgt := 20) C dX12_isWord_5 rfl hE (fun hE => ?_) (fun hE => ?_)
  · exact p_X12_isWord_20 C Q  x1 x2 x3 x4 x5 x6 x7 S hE
  · refine j_aload_n C dX12_isWord_8 0 rfl ?_
    refine g_X12_246_41 C dX12_isWord_9 ?_
    refine j_iload_n C dX12_isWord_12 1 rfl ?_
    refine j_icmp_ne (tgt := 20) C dX12_isWord_13 rfl hE (fun hE => ?_) (fun hE => ?_)
    · exact p_X12_isWord_20 C Q  x1 x2 x3 x4 x5 x6 x7 S hE
    · refine j_iconst (v := 1) C dX12_isWord_16 jc_ic_1 ?_
      refine j_goto (tgt := 21) C dX12_isWord_17 rfl ?_
      exact p_X12_isWord_21 C Q  1 x1 x2 x3 x4 x5 x6 x7 S hE
theorem c_X12_isWord {l : Launch} {D : va_G} {ad : Nat → Nat} {cy : Nat → ClassId} (hO : jOk (jMain D ad cy)) (x1 : Int32) (x2 : Int32) (x3 : Int32) (x4 : Int32) (x5 : Int32) (x6 : Int32) (x7 : Int32) (S : jS) {z : Int32 × jS} (hz : f_X12_isWord x1 x2 x3 x4 x5 x6 x7 S = some z) : Met l yX12_isWord (.code yX12_isWord cX12_isWord 10 (some .boolean) :: jT) { frames := 0, cells := 0, slots := 0, locals := 0 } (va_Pc [.ref (ad 41), .int x1, .int x2, .int x3, .int x4, .int x5, .int x6, .int x7] (jInv (jMain D ad cy) S)) (jQ (jMain D ad cy) (some (.int z.1), z.2)) 0 0 (yA (jMain D ad cy)) :=
  jMet hO (by decide +kernel) rfl (Nat.le_of_ble_eq_true rfl) (fun X _ C Q => p_X12_isWord_e C Q x1 x2 x3 x4 x5 x6 x7 S hz)
theorem k_X12_268_X12_isWord {X : jX} {D : va_G} {ad : Nat → Nat} {cy : Nat → ClassId} {cc : ByteArray} {ret : Option FieldType} {nL fr lo pc : Nat} {lv : List (Nat × Value)} {st : List Value} {S : jS} {β : Type} {z : β} (C : jC X (jMain D ad cy) RX12 cc ret nL fr lo) {a0 : Int32} {a1 : Int32} {a2 : Int32} {a3 : Int32} {a4 : Int32} {a5 : Int32} {a6 : Int32} {E : Int32 → jS → Option β} (d : decode cc pc = .ok (.invokevirtual 268, 3)) (hE : jcl (f_X12_isWord a0 a1 a2 a3 a4 a5 a6 S) E = some z) (hfr : 1 ≤ fr) (hlo : 29 ≤ lo) (hst : (st.map fun v => v.category).sum ≤ 8) (K : ∀ (v : Int32) (S1 : jS), E v S1 = some z → jJ X (jMain D ad cy) (pc + 3) lv (.int v :: st) S1) : jJ X (jMain D ad cy) pc lv (.int a6 :: .int a5 :: .int a4 :: .int a3 :: .int a2 :: .int a1 :: .int a0 :: .ref (ad 41) :: st) S := by
  obtain ⟨v, h1, h2⟩ := jcl_some hE
  exact j_callV (k := 41) (ci := 12) (T := TX12) (N := 25) (n := 7) (As := [.int a0, .int a1, .int a2, .int a3, .int a4, .int a5, .int a6]) C (c_X12_isWord C.2.2.2.2.2.2.1 a0 a1 a2 a3 a4 a5 a6 S h1) tw_1245 tw_1247 tw_63 tw_81 tw_1248 (by decide +kernel) rfl (by decide : 41 < 56) rfl rfl hfr hlo hst rfl d (K _ _ h2)
set_option maxRecDepth 100000 in
theorem p_X12_goBehind_e {X : jX} {D : va_G} {ad : Nat → Nat} {cy : Nat → ClassId} (C : jC X (jMain D ad cy) RX12 cX12_goBehind (none) 1 3 69) {z : jS} (Q : jRet X (jMain D ad cy) (none, z))   (S : jS) (hE : f_X12_goBehind_e    S = some z) : jJ X (jMain D ad cy) 0 [(0, .ref (ad 41))] [] S := by
  unfold f_X12_goBehind_e at hE
  refine j_aload_n C dX12_goBehind_0 0 rfl ?_
  refine j_aload_n C dX12_goBehind_1 0 rfl ?_
  refine g_X12_243_41 C dX12_goBehind_2 ?_
  refine j_aload_n C dX12_goBehind_5 0 rfl ?_
  refine g_X12_246_41 C dX12_goBehind_6 ?_
  refine j_iadd C dX12_goBehind_9 ?_
  refine k_X12_261_X12_lookAt C dX12_goBehind_10 hE (Nat.le_of_ble_eq_true rfl) (Nat.le_of_ble_eq_true rfl) (Nat.le_of_ble_eq_true rfl) (fun S1 hE => ?_)
  exact j_vret C Q dX12_goBehind_13 hE
theorem c_X12_goBehind {l : Launch} {D : va_G} {ad : Nat → Nat} {cy : Nat → ClassId} (hO : jOk (jMain D ad cy))  (S : jS) {z : jS} (hz : f_X12_goBehind  S = some z) : Met l yX12_goBehind (.code yX12_goBehind cX12_goBehind 1 (none) :: jT) { frames := 3, cells := 0, slots := 0, locals := 69 } (va_Pc [.ref (ad 41)] (jInv (jMain D ad cy) S)) (jQ (jMain D ad cy) (none, z)) 0 0 (yA (jMain D ad cy)) :=
  jMet hO (by decide +kernel) rfl (Nat.le_of_ble_eq_true rfl) (fun X _ C Q => p_X12_goBehind_e C Q  S hz)
theorem k_X12_265_X12_goBehind {X : jX} {D : va_G} {ad : Nat → Nat} {cy : Nat → ClassId} {cc : ByteArray} {ret : Option FieldType} {nL fr lo pc : Nat} {lv : List (Nat × Value)} {st : List Value} {S : jS} {β : Type} {z : β} (C : jC X (jMain D ad cy) RX12 cc ret nL fr lo)  {E : jS → Option β} (d : decode cc pc = .ok (.invokevirtual 265, 3)) (hE : jcv (f_X12_goBehind  S) E = some z) (hfr : 4 ≤ fr) (hlo : 89 ≤ lo) (hst : (st.map fun v => v.category).sum ≤ 8) (K : ∀ S1, E S1 = some z → jJ X (jMain D ad cy) (pc + 3) lv st S1) : jJ X (jMain D ad cy) pc lv (.ref (ad 41) :: st) S := by
  obtain ⟨v, h1, h2⟩ := jcv_some hE
  exact j_callV (k := 41) (ci := 12) (T := TX12) (N := 25) (n := 0) (As := []) C (c_X12_goBehind C.2.2.2.2.2.2.1  S h1) tw_1249 tw_1251 tw_64 tw_81 tw_1252 (by decide +kernel) rfl (by decide : 41 < 56) rfl rfl hfr hlo hst rfl d (K _ h2)
set_option maxRecDepth 100000 in
theorem p_X12_takes_23 {X : jX} {D : va_G} {ad : Nat → Nat} {cy : Nat → ClassId} (C : jC X (jMain D ad cy) RX12 cX12_takes (some .boolean) 4 4 89) {z : Int32 × jS} (Q : jRet X (jMain D ad cy) (some (.int z.1), z.2))   (S : jS) (hE : f_X12_takes_23    S = some z) : jJ X (jMain D ad cy) 23 [] [] S := by
  unfold f_X12_takes_23 at hE
  refine j_iconst (v := 0) C dX12_takes_23 jc_ic_0 ?_
  exact j_zret C Q dX12_takes_24 hE
set_option maxRecDepth 100000 in
theorem p_X12_takes_e {X : jX} {D : va_G} {ad : Nat → Nat} {cy : Nat → ClassId} (C : jC X (jMain D ad cy) RX12 cX12_takes (some .boolean) 4 4 89) {z : Int32 × jS} (Q : jRet X (jMain D ad cy) (some (.int z.1), z.2))  (x1 : Int32) (x2 : Int32) (x3 : Int32) (S : jS) (hE : f_X12_takes_e   x1 x2 x3 S = some z) : jJ X (jMain D ad cy) 0 [(0, .ref (ad 41)), (1, .int x1), (2, .int x2), (3, .int x3)] [] S := by
  unfold f_X12_takes_e at hE
  refine j_aload_n C dX12_takes_0 0 rfl ?_
  refine g_X12_249_41 C dX12_takes_1 ?_
  refine j_iconst (v := 2) C dX12_takes_4 jc_ic_2 ?_
  refine j_icmp_ne (tgt := 23) C dX12_takes_5 rfl hE (fun hE => ?_) (fun hE => ?_)
  · refine j_sub [] rfl ?_
    exact p_X12_takes_23 C Q   S hE
  · refine j_aload_n C dX12_takes_8 0 rfl ?_
    refine g_X12_252_41 C dX12_takes_9 ?_
    refine j_i2l C dX12_takes_12 ?_
    refine j_iload_n C dX12_takes_13 2 rfl ?_
    refine j_i2l C dX12_takes_14 ?_
    refine j_iload_n C dX12_takes_15 3 rfl ?_
    refine j_i2l C dX12_takes_16 ?_
    refine k_X12_59_X12_in C dX12_takes_17 hE (Nat.le_of_ble_eq_true rfl) (Nat.le_of_ble_eq_true rfl) (Nat.le_of_ble_eq_true rfl) (fun v2 S1 hE => ?_)
    refine j_if_ne (tgt := 25) C dX12_takes_20 rfl hE (fun hE => ?_) (fun hE => ?_)
    · refine j_aload_n C dX12_takes_25 0 rfl ?_
      refine g_X12_54_41 C dX12_takes_26 ?_
      refine j_iload_n C dX12_takes_29 1 rfl ?_
      refine j_aload_n C dX12_takes_30 0 rfl ?_
      refine g_X12_252_41 C dX12_takes_31 ?_
      refine s_55 C dX12_takes_34 hE (fun S3 hE => ?_)
      refine j_aload_n C dX12_takes_35 0 rfl ?_
      refine k_X12_265_X12_goBehind C dX12_takes_36 hE (Nat.le_of_ble_eq_true rfl) (Nat.le_of_ble_eq_true rfl) (Nat.le_of_ble_eq_true rfl) (fun S4 hE => ?_)
      refine j_iconst (v := 1) C dX12_takes_39 jc_ic_1 ?_
      exact j_zret C Q dX12_takes_40 hE
    · refine j_sub [] rfl ?_
      exact p_X12_takes_23 C Q   S1 hE
theorem c_X12_takes {l : Launch} {D : va_G} {ad : Nat → Nat} {cy : Nat → ClassId} (hO : jOk (jMain D ad cy)) (x1 : Int32) (x2 : Int32) (x3 : Int32) (S : jS) {z : Int32 × jS} (hz : f_X12_takes x1 x2 x3 S = some z) : Met l yX12_takes (.code yX12_takes cX12_takes 4 (some .boolean) :: jT) { frames := 4, cells := 0, slots := 0, locals := 89 } (va_Pc [.ref (ad 41), .int x1, .int x2, .int x3] (jInv (jMain D ad cy) S)) (jQ (jMain D ad cy) (some (.int z.1), z.2)) 0 0 (yA (jMain D ad cy)) :=
  jMet hO (by decide +kernel) rfl (Nat.le_of_ble_eq_true rfl) (fun X _ C Q => p_X12_takes_e C Q x1 x2 x3 S hz)
theorem k_X12_272_X12_takes {X : jX} {D : va_G} {ad : Nat → Nat} {cy : Nat → ClassId} {cc : ByteArray} {ret : Option FieldType} {nL fr lo pc : Nat} {lv : List (Nat × Value)} {st : List Value} {S : jS} {β : Type} {z : β} (C : jC X (jMain D ad cy) RX12 cc ret nL fr lo) {a0 : Int32} {a1 : Int32} {a2 : Int32} {E : Int32 → jS → Option β} (d : decode cc pc = .ok (.invokevirtual 272, 3)) (hE : jcl (f_X12_takes a0 a1 a2 S) E = some z) (hfr : 5 ≤ fr) (hlo : 112 ≤ lo) (hst : (st.map fun v => v.category).sum ≤ 8) (K : ∀ (v : Int32) (S1 : jS), E v S1 = some z → jJ X (jMain D ad cy) (pc + 3) lv (.int v :: st) S1) : jJ X (jMain D ad cy) pc lv (.int a2 :: .int a1 :: .int a0 :: .ref (ad 41) :: st) S := by
  obtain ⟨v, h1, h2⟩ := jcl_some hE
  exact j_callV (k := 41) (ci := 12) (T := TX12) (N := 25) (n := 3) (As := [.int a0, .int a1, .int a2]) C (c_X12_takes C.2.2.2.2.2.2.1 a0 a1 a2 S h1) tw_1253 tw_1255 tw_65 tw_81 tw_1256 (by decide +kernel) rfl (by decide : 41 < 56) rfl rfl hfr hlo hst rfl d (K _ _ h2)
set_option maxRecDepth 100000 in
theorem p_X12_begin_r54_2 {X : jX} {D : va_G} {ad : Nat → Nat} {cy : Nat → ClassId} (C : jC X (jMain D ad cy) RX12 cX12_begin (none) 4 0 0) {z : jS} (Q : jRet X (jMain D ad cy) (none, z)) {g : Int32 → Int32 → Int32 → jS → Option (jS)} (hg : ∀ (x1 : Int32) (x2 : Int32) (x3 : Int32) (S : jS), g x1 x2 x3 S = some z → jJ X (jMain D ad cy) 2 [(0, .ref (ad 54)), (1, .int x1), (2, .int x2), (3, .int x3)] [] S) {k18 : Int32 → Int32 → jS → Option (jS)} (hk18 : ∀ (x1 : Int32) (x2 : Int32) (S : jS), k18 x1 x2 S = some z → jJ X (jMain D ad cy) 18 [(0, .ref (ad 54)), (1, .int x1), (2, .int x2)] [] S) (x1 : Int32) (x2 : Int32) (x3 : Int32) (S : jS) (hE : f_X12_begin_r54_2  g k18 x1 x2 x3 S = some z) : jJ X (jMain D ad cy) 2 [(0, .ref (ad 54)), (1, .int x1), (2, .int x2), (3, .int x3)] [] S := by
  unfold f_X12_begin_r54_2 at hE
  refine j_iload_n C dX12_begin_2 3 rfl ?_
  refine j_bipush (v := 69) C dX12_begin_3 jc_bp_69 ?_
  refine j_icmp_ge (tgt := 18) C dX12_begin_5 rfl hE (fun hE => ?_) (fun hE => ?_)
  · refine j_sub [0, 1, 2] rfl ?_
    exact hk18 x1 x2 S hE
  · refine j_aload_n C dX12_begin_8 0 rfl ?_
    refine j_iload_n C dX12_begin_9 3 rfl ?_
    refine j_iconst (v := 0) C dX12_begin_10 jc_ic_0 ?_
    refine s_54 C dX12_begin_11 hE (fun S1 hE => ?_)
    refine j_iinc (v := (x3 + 1)) (lv' := [(3, .int (x3 + 1)), (0, .ref (ad 54)), (1, .int x1), (2, .int x2)]) C dX12_begin_12 3 rfl (congrArg (fun w => x3 + w) jc_ic_1) (by decide) rfl ?_
    refine j_goto (tgt := 2) C dX12_begin_15 rfl ?_
    refine j_sub [1, 2, 3, 0] rfl ?_
    exact hg x1 x2 (x3 + 1) S1 hE
theorem q_X12_begin_r54_2 {X : jX} {D : va_G} {ad : Nat → Nat} {cy : Nat → ClassId} (C : jC X (jMain D ad cy) RX12 cX12_begin (none) 4 0 0) {z : jS} (Q : jRet X (jMain D ad cy) (none, z)) {k18 : Int32 → Int32 → jS → Option (jS)} (hk18 : ∀ (x1 : Int32) (x2 : Int32) (S : jS), k18 x1 x2 S = some z → jJ X (jMain D ad cy) 18 [(0, .ref (ad 54)), (1, .int x1), (2, .int x2)] [] S) (x1 : Int32) (x2 : Int32) (x3 : Int32) (S : jS) (hE : lp_X12_begin_r54_2  k18 x1 x2 x3 S = some z) : jJ X (jMain D ad cy) 2 [(0, .ref (ad 54)), (1, .int x1), (2, .int x2), (3, .int x3)] [] S :=
  jloop_P (α := Int32 × Int32 × Int32 × jS) (B := (fun g q => f_X12_begin_r54_2  (fun x1 x2 x3 S => g (x1, x2, x3, S)) k18 q.1 q.2.1 q.2.2.1 q.2.2.2)) (P := fun q => jJ X (jMain D ad cy) 2 [(0, .ref (ad 54)), (1, .int q.1), (2, .int q.2.1), (3, .int q.2.2.1)] [] q.2.2.2) (fun g q hg h => p_X12_begin_r54_2 C Q (g := fun x1 x2 x3 S => g (x1, x2, x3, S)) (fun x1 x2 x3 S h => hg (x1, x2, x3, S) h) hk18 q.1 q.2.1 q.2.2.1 q.2.2.2 h) jN (x1, x2, x3, S) hE
set_option maxRecDepth 100000 in
theorem p_X12_begin_r54_18 {X : jX} {D : va_G} {ad : Nat → Nat} {cy : Nat → ClassId} (C : jC X (jMain D ad cy) RX12 cX12_begin (none) 4 0 0) {z : jS} (Q : jRet X (jMain D ad cy) (none, z))  (x1 : Int32) (x2 : Int32) (S : jS) (hE : f_X12_begin_r54_18   x1 x2 S = some z) : jJ X (jMain D ad cy) 18 [(0, .ref (ad 54)), (1, .int x1), (2, .int x2)] [] S := by
  unfold f_X12_begin_r54_18 at hE
  refine j_aload_n C dX12_begin_18 0 rfl ?_
  refine j_bipush (v := 8) C dX12_begin_19 jc_bp_8 ?_
  refine j_iload_n C dX12_begin_21 1 rfl ?_
  refine s_54 C dX12_begin_22 hE (fun S1 hE => ?_)
  refine j_aload_n C dX12_begin_23 0 rfl ?_
  refine j_bipush (v := 9) C dX12_begin_24 jc_bp_9 ?_
  refine j_iload_n C dX12_begin_26 2 rfl ?_
  refine s_54 C dX12_begin_27 hE (fun S2 hE => ?_)
  exact j_vret C Q dX12_begin_28 hE
set_option maxRecDepth 100000 in
theorem p_X12_begin_r54_e {X : jX} {D : va_G} {ad : Nat → Nat} {cy : Nat → ClassId} (C : jC X (jMain D ad cy) RX12 cX12_begin (none) 4 0 0) {z : jS} (Q : jRet X (jMain D ad cy) (none, z))  (x1 : Int32) (x2 : Int32) (S : jS) (hE : f_X12_begin_r54_e   x1 x2 S = some z) : jJ X (jMain D ad cy) 0 [(0, .ref (ad 54)), (1, .int x1), (2, .int x2)] [] S := by
  unfold f_X12_begin_r54_e at hE
  refine j_iconst (v := 0) C dX12_begin_0 jc_ic_0 ?_
  refine j_istore_n (i := 3) (lv' := [(3, .int 0), (0, .ref (ad 54)), (1, .int x1), (2, .int x2)]) C dX12_begin_1 rfl (by decide) rfl ?_
  refine j_sub [1, 2, 3, 0] rfl ?_
  exact q_X12_begin_r54_2 C Q (p_X12_begin_r54_18 C Q ) x1 x2 0 S hE
theorem c_X12_begin_r54 {l : Launch} {D : va_G} {ad : Nat → Nat} {cy : Nat → ClassId} (hO : jOk (jMain D ad cy)) (x1 : Int32) (x2 : Int32) (S : jS) {z : jS} (hz : f_X12_begin_r54 x1 x2 S = some z) : Met l yX12_begin (.code yX12_begin cX12_begin 4 (none) :: jT) { frames := 0, cells := 0, slots := 0, locals := 0 } (va_Pc [.ref (ad 54), .int x1, .int x2] (jInv (jMain D ad cy) S)) (jQ (jMain D ad cy) (none, z)) 0 0 (yA (jMain D ad cy)) :=
  jMet hO (by decide +kernel) rfl (Nat.le_of_ble_eq_true rfl) (fun X _ C Q => p_X12_begin_r54_e C Q x1 x2 S hz)
theorem k_X12_98_X12_begin_r54 {X : jX} {D : va_G} {ad : Nat → Nat} {cy : Nat → ClassId} {cc : ByteArray} {ret : Option FieldType} {nL fr lo pc : Nat} {lv : List (Nat × Value)} {st : List Value} {S : jS} {β : Type} {z : β} (C : jC X (jMain D ad cy) RX12 cc ret nL fr lo) {a1 : Int32} {a2 : Int32} {E : jS → Option β} (d : decode cc pc = .ok (.invokestatic 98, 3)) (hE : jcv (f_X12_begin_r54 a1 a2 S) E = some z) (hfr : 1 ≤ fr) (hlo : 23 ≤ lo) (hst : (st.map fun v => v.category).sum ≤ 8) (K : ∀ S1, E S1 = some z → jJ X (jMain D ad cy) (pc + 3) lv st S1) : jJ X (jMain D ad cy) pc lv (.int a2 :: .int a1 :: .ref (ad 54) :: st) S := by
  obtain ⟨v, h1, h2⟩ := jcv_some hE
  exact j_callS (n := 3) (As := [.ref (ad 54), .int a1, .int a2]) C (c_X12_begin_r54 C.2.2.2.2.2.2.1 a1 a2 S h1) tw_972 tw_973 tw_81 tw_974 (by decide +kernel) rfl hfr hlo hst rfl d (K _ h2)
set_option maxRecDepth 100000 in
theorem p_X12_takesFirst_48 {X : jX} {D : va_G} {ad : Nat → Nat} {cy : Nat → ClassId} (C : jC X (jMain D ad cy) RX12 cX12_takesFirst (some .boolean) 1 5 112) {z : Int32 × jS} (Q : jRet X (jMain D ad cy) (some (.int z.1), z.2))   (S : jS) (hE : f_X12_takesFirst_48    S = some z) : jJ X (jMain D ad cy) 48 [] [] S := by
  unfold f_X12_takesFirst_48 at hE
  refine j_iconst (v := 0) C dX12_takesFirst_48 jc_ic_0 ?_
  exact j_zret C Q dX12_takesFirst_49 hE
set_option maxRecDepth 100000 in
theorem p_X12_takesFirst_82 {X : jX} {D : va_G} {ad : Nat → Nat} {cy : Nat → ClassId} (C : jC X (jMain D ad cy) RX12 cX12_takesFirst (some .boolean) 1 5 112) {z : Int32 × jS} (Q : jRet X (jMain D ad cy) (some (.int z.1), z.2))  (a0 : Int32) (S : jS) (hE : f_X12_takesFirst_82   a0 S = some z) : jJ X (jMain D ad cy) 82 [] [.int a0] S := by
  unfold f_X12_takesFirst_82 at hE
  exact j_zret C Q dX12_takesFirst_82 hE
set_option maxRecDepth 100000 in
theorem p_X12_takesFirst_e {X : jX} {D : va_G} {ad : Nat → Nat} {cy : Nat → ClassId} (C : jC X (jMain D ad cy) RX12 cX12_takesFirst (some .boolean) 1 5 112) {z : Int32 × jS} (Q : jRet X (jMain D ad cy) (some (.int z.1), z.2))   (S : jS) (hE : f_X12_takesFirst_e    S = some z) : jJ X (jMain D ad cy) 0 [(0, .ref (ad 41))] [] S := by
  unfold f_X12_takesFirst_e at hE
  refine j_aload_n C dX12_takesFirst_0 0 rfl ?_
  refine j_bipush (v := 6) C dX12_takesFirst_1 jc_bp_6 ?_
  refine j_bipush (v := 115) C dX12_takesFirst_3 jc_bp_115 ?_
  refine j_bipush (v := 116) C dX12_takesFirst_5 jc_bp_116 ?_
  refine j_bipush (v := 114) C dX12_takesFirst_7 jc_bp_114 ?_
  refine j_bipush (v := 101) C dX12_takesFirst_9 jc_bp_101 ?_
  refine j_bipush (v := 101) C dX12_takesFirst_11 jc_bp_101 ?_
  refine j_bipush (v := 116) C dX12_takesFirst_13 jc_bp_116 ?_
  refine k_X12_268_X12_isWord C dX12_takesFirst_15 hE (Nat.le_of_ble_eq_true rfl) (Nat.le_of_ble_eq_true rfl) (Nat.le_of_ble_eq_true rfl) (fun v2 S1 hE => ?_)
  refine j_if_ne (tgt := 23) C dX12_takesFirst_18 rfl hE (fun hE => ?_) (fun hE => ?_)
  · refine j_aload_n C dX12_takesFirst_23 0 rfl ?_
    refine k_X12_265_X12_goBehind C dX12_takesFirst_24 hE (Nat.le_of_ble_eq_true rfl) (Nat.le_of_ble_eq_true rfl) (Nat.le_of_ble_eq_true rfl) (fun S3 hE => ?_)
    refine j_aload_n C dX12_takesFirst_27 0 rfl ?_
    refine j_iconst (v := 0) C dX12_takesFirst_28 jc_ic_0 ?_
    refine j_iconst (v := 0) C dX12_takesFirst_29 jc_ic_0 ?_
    refine j_iconst (v := 5) C dX12_takesFirst_30 jc_ic_5 ?_
    refine k_X12_272_X12_takes C dX12_takesFirst_31 hE (Nat.le_of_ble_eq_true rfl) (Nat.le_of_ble_eq_true rfl) (Nat.le_of_ble_eq_true rfl) (fun v5 S4 hE => ?_)
    refine j_if_eq (tgt := 48) C dX12_takesFirst_34 rfl hE (fun hE => ?_) (fun hE => ?_)
    · refine j_sub [] rfl ?_
      exact p_X12_takesFirst_48 C Q   S4 hE
    · refine j_aload_n C dX12_takesFirst_37 0 rfl ?_
      refine j_iconst (v := 1) C dX12_takesFirst_38 jc_ic_1 ?_
      refine j_iconst (v := 0) C dX12_takesFirst_39 jc_ic_0 ?_
      refine j_bipush (v := 9) C dX12_takesFirst_40 jc_bp_9 ?_
      refine k_X12_272_X12_takes C dX12_takesFirst_42 hE (Nat.le_of_ble_eq_true rfl) (Nat.le_of_ble_eq_true rfl) (Nat.le_of_ble_eq_true rfl) (fun v7 S6 hE => ?_)
      refine j_if_ne (tgt := 50) C dX12_takesFirst_45 rfl hE (fun hE => ?_) (fun hE => ?_)
      · refine j_aload_n C dX12_takesFirst_50 0 rfl ?_
        refine g_X12_51_41 C dX12_takesFirst_51 ?_
        refine j_aload_n C dX12_takesFirst_54 0 rfl ?_
        refine g_X12_54_41 C dX12_takesFirst_55 ?_
        refine j_iconst (v := 0) C dX12_takesFirst_58 jc_ic_0 ?_
        refine l_55 C dX12_takesFirst_59 hE (fun v8 hE => ?_)
        refine j_aload_n C dX12_takesFirst_60 0 rfl ?_
        refine g_X12_54_41 C dX12_takesFirst_61 ?_
        refine j_iconst (v := 1) C dX12_takesFirst_64 jc_ic_1 ?_
        refine l_55 C dX12_takesFirst_65 hE (fun v9 hE => ?_)
        refine k_X12_98_X12_begin_r54 C dX12_takesFirst_66 hE (Nat.le_of_ble_eq_true rfl) (Nat.le_of_ble_eq_true rfl) (Nat.le_of_ble_eq_true rfl) (fun S10 hE => ?_)
        refine j_aload_n C dX12_takesFirst_69 0 rfl ?_
        refine g_X12_249_41 C dX12_takesFirst_70 ?_
        refine j_iconst (v := 3) C dX12_takesFirst_73 jc_ic_3 ?_
        refine j_icmp_ne (tgt := 81) C dX12_takesFirst_74 rfl hE (fun hE => ?_) (fun hE => ?_)
        · refine j_iconst (v := 0) C dX12_takesFirst_81 jc_ic_0 ?_
          refine j_sub [] rfl ?_
          exact p_X12_takesFirst_82 C Q  0 S10 hE
        · refine j_iconst (v := 1) C dX12_takesFirst_77 jc_ic_1 ?_
          refine j_goto (tgt := 82) C dX12_takesFirst_78 rfl ?_
          refine j_sub [] rfl ?_
          exact p_X12_takesFirst_82 C Q  1 S10 hE
      · refine j_sub [] rfl ?_
        exact p_X12_takesFirst_48 C Q   S6 hE
  · refine j_iconst (v := 0) C dX12_takesFirst_21 jc_ic_0 ?_
    exact j_zret C Q dX12_takesFirst_22 hE
theorem c_X12_takesFirst {l : Launch} {D : va_G} {ad : Nat → Nat} {cy : Nat → ClassId} (hO : jOk (jMain D ad cy))  (S : jS) {z : Int32 × jS} (hz : f_X12_takesFirst  S = some z) : Met l yX12_takesFirst (.code yX12_takesFirst cX12_takesFirst 1 (some .boolean) :: jT) { frames := 5, cells := 0, slots := 0, locals := 112 } (va_Pc [.ref (ad 41)] (jInv (jMain D ad cy) S)) (jQ (jMain D ad cy) (some (.int z.1), z.2)) 0 0 (yA (jMain D ad cy)) :=
  jMet hO (by decide +kernel) rfl (Nat.le_of_ble_eq_true rfl) (fun X _ C Q => p_X12_takesFirst_e C Q  S hz)
theorem k_X12_276_X12_takesFirst {X : jX} {D : va_G} {ad : Nat → Nat} {cy : Nat → ClassId} {cc : ByteArray} {ret : Option FieldType} {nL fr lo pc : Nat} {lv : List (Nat × Value)} {st : List Value} {S : jS} {β : Type} {z : β} (C : jC X (jMain D ad cy) RX12 cc ret nL fr lo)  {E : Int32 → jS → Option β} (d : decode cc pc = .ok (.invokevirtual 276, 3)) (hE : jcl (f_X12_takesFirst  S) E = some z) (hfr : 6 ≤ fr) (hlo : 132 ≤ lo) (hst : (st.map fun v => v.category).sum ≤ 8) (K : ∀ (v : Int32) (S1 : jS), E v S1 = some z → jJ X (jMain D ad cy) (pc + 3) lv (.int v :: st) S1) : jJ X (jMain D ad cy) pc lv (.ref (ad 41) :: st) S := by
  obtain ⟨v, h1, h2⟩ := jcl_some hE
  exact j_callV (k := 41) (ci := 12) (T := TX12) (N := 25) (n := 0) (As := []) C (c_X12_takesFirst C.2.2.2.2.2.2.1  S h1) tw_1241 tw_1243 tw_62 tw_81 tw_1244 (by decide +kernel) rfl (by decide : 41 < 56) rfl rfl hfr hlo hst rfl d (K _ _ h2)
set_option maxRecDepth 100000 in
theorem p_X12_takesHouse_48 {X : jX} {D : va_G} {ad : Nat → Nat} {cy : Nat → ClassId} (C : jC X (jMain D ad cy) RX12 cX12_takesHouse (some .boolean) 1 5 112) {z : Int32 × jS} (Q : jRet X (jMain D ad cy) (some (.int z.1), z.2))   (S : jS) (hE : f_X12_takesHouse_48    S = some z) : jJ X (jMain D ad cy) 48 [] [] S := by
  unfold f_X12_takesHouse_48 at hE
  refine j_iconst (v := 0) C dX12_takesHouse_48 jc_ic_0 ?_
  exact j_zret C Q dX12_takesHouse_49 hE
set_option maxRecDepth 100000 in
theorem p_X12_takesHouse_e {X : jX} {D : va_G} {ad : Nat → Nat} {cy : Nat → ClassId} (C : jC X (jMain D ad cy) RX12 cX12_takesHouse (some .boolean) 1 5 112) {z : Int32 × jS} (Q : jRet X (jMain D ad cy) (some (.int z.1), z.2))   (S : jS) (hE : f_X12_takesHouse_e    S = some z) : jJ X (jMain D ad cy) 0 [(0, .ref (ad 41))] [] S := by
  unfold f_X12_takesHouse_e at hE
  refine j_aload_n C dX12_takesHouse_0 0 rfl ?_
  refine j_iconst (v := 5) C dX12_takesHouse_1 jc_ic_5 ?_
  refine j_bipush (v := 104) C dX12_takesHouse_2 jc_bp_104 ?_
  refine j_bipush (v := 111) C dX12_takesHouse_4 jc_bp_111 ?_
  refine j_bipush (v := 117) C dX12_takesHouse_6 jc_bp_117 ?_
  refine j_bipush (v := 115) C dX12_takesHouse_8 jc_bp_115 ?_
  refine j_bipush (v := 101) C dX12_takesHouse_10 jc_bp_101 ?_
  refine j_iconst (v := 0) C dX12_takesHouse_12 jc_ic_0 ?_
  refine k_X12_268_X12_isWord C dX12_takesHouse_13 hE (Nat.le_of_ble_eq_true rfl) (Nat.le_of_ble_eq_true rfl) (Nat.le_of_ble_eq_true rfl) (fun v2 S1 hE => ?_)
  refine j_if_ne (tgt := 21) C dX12_takesHouse_16 rfl hE (fun hE => ?_) (fun hE => ?_)
  · refine j_aload_n C dX12_takesHouse_21 0 rfl ?_
    refine k_X12_265_X12_goBehind C dX12_takesHouse_22 hE (Nat.le_of_ble_eq_true rfl) (Nat.le_of_ble_eq_true rfl) (Nat.le_of_ble_eq_true rfl) (fun S3 hE => ?_)
    refine j_aload_n C dX12_takesHouse_25 0 rfl ?_
    refine j_iconst (v := 0) C dX12_takesHouse_26 jc_ic_0 ?_
    refine j_iconst (v := 0) C dX12_takesHouse_27 jc_ic_0 ?_
    refine j_bipush (v := 7) C dX12_takesHouse_28 jc_bp_7 ?_
    refine k_X12_272_X12_takes C dX12_takesHouse_30 hE (Nat.le_of_ble_eq_true rfl) (Nat.le_of_ble_eq_true rfl) (Nat.le_of_ble_eq_true rfl) (fun v5 S4 hE => ?_)
    refine j_if_eq (tgt := 48) C dX12_takesHouse_33 rfl hE (fun hE => ?_) (fun hE => ?_)
    · refine j_sub [] rfl ?_
      exact p_X12_takesHouse_48 C Q   S4 hE
    · refine j_aload_n C dX12_takesHouse_36 0 rfl ?_
      refine j_iconst (v := 1) C dX12_takesHouse_37 jc_ic_1 ?_
      refine j_iconst (v := 0) C dX12_takesHouse_38 jc_ic_0 ?_
      refine j_sipush (v := 300) C dX12_takesHouse_39 jc_sp_300 ?_
      refine k_X12_272_X12_takes C dX12_takesHouse_42 hE (Nat.le_of_ble_eq_true rfl) (Nat.le_of_ble_eq_true rfl) (Nat.le_of_ble_eq_true rfl) (fun v7 S6 hE => ?_)
      refine j_if_ne (tgt := 50) C dX12_takesHouse_45 rfl hE (fun hE => ?_) (fun hE => ?_)
      · refine j_aload_n C dX12_takesHouse_50 0 rfl ?_
        refine g_X12_51_41 C dX12_takesHouse_51 ?_
        refine j_aload_n C dX12_takesHouse_54 0 rfl ?_
        refine g_X12_54_41 C dX12_takesHouse_55 ?_
        refine j_iconst (v := 0) C dX12_takesHouse_58 jc_ic_0 ?_
        refine l_55 C dX12_takesHouse_59 hE (fun v8 hE => ?_)
        refine j_aload_n C dX12_takesHouse_60 0 rfl ?_
        refine g_X12_54_41 C dX12_takesHouse_61 ?_
        refine j_iconst (v := 1) C dX12_takesHouse_64 jc_ic_1 ?_
        refine l_55 C dX12_takesHouse_65 hE (fun v9 hE => ?_)
        refine s_54 C dX12_takesHouse_66 hE (fun S10 hE => ?_)
        refine j_iconst (v := 1) C dX12_takesHouse_67 jc_ic_1 ?_
        exact j_zret C Q dX12_takesHouse_68 hE
      · refine j_sub [] rfl ?_
        exact p_X12_takesHouse_48 C Q   S6 hE
  · refine j_iconst (v := 0) C dX12_takesHouse_19 jc_ic_0 ?_
    exact j_zret C Q dX12_takesHouse_20 hE
theorem c_X12_takesHouse {l : Launch} {D : va_G} {ad : Nat → Nat} {cy : Nat → ClassId} (hO : jOk (jMain D ad cy))  (S : jS) {z : Int32 × jS} (hz : f_X12_takesHouse  S = some z) : Met l yX12_takesHouse (.code yX12_takesHouse cX12_takesHouse 1 (some .boolean) :: jT) { frames := 5, cells := 0, slots := 0, locals := 112 } (va_Pc [.ref (ad 41)] (jInv (jMain D ad cy) S)) (jQ (jMain D ad cy) (some (.int z.1), z.2)) 0 0 (yA (jMain D ad cy)) :=
  jMet hO (by decide +kernel) rfl (Nat.le_of_ble_eq_true rfl) (fun X _ C Q => p_X12_takesHouse_e C Q  S hz)
theorem k_X12_280_X12_takesHouse {X : jX} {D : va_G} {ad : Nat → Nat} {cy : Nat → ClassId} {cc : ByteArray} {ret : Option FieldType} {nL fr lo pc : Nat} {lv : List (Nat × Value)} {st : List Value} {S : jS} {β : Type} {z : β} (C : jC X (jMain D ad cy) RX12 cc ret nL fr lo)  {E : Int32 → jS → Option β} (d : decode cc pc = .ok (.invokevirtual 280, 3)) (hE : jcl (f_X12_takesHouse  S) E = some z) (hfr : 6 ≤ fr) (hlo : 132 ≤ lo) (hst : (st.map fun v => v.category).sum ≤ 8) (K : ∀ (v : Int32) (S1 : jS), E v S1 = some z → jJ X (jMain D ad cy) (pc + 3) lv (.int v :: st) S1) : jJ X (jMain D ad cy) pc lv (.ref (ad 41) :: st) S := by
  obtain ⟨v, h1, h2⟩ := jcl_some hE
  exact j_callV (k := 41) (ci := 12) (T := TX12) (N := 25) (n := 0) (As := []) C (c_X12_takesHouse C.2.2.2.2.2.2.1  S h1) tw_1257 tw_1259 tw_66 tw_81 tw_1260 (by decide +kernel) rfl (by decide : 41 < 56) rfl rfl hfr hlo hst rfl d (K _ _ h2)
set_option maxRecDepth 100000 in
theorem p_X12_read_26 {X : jX} {D : va_G} {ad : Nat → Nat} {cy : Nat → ClassId} (C : jC X (jMain D ad cy) RX12 cX12_read (some .int) 3 6 132) {z : Int32 × jS} (Q : jRet X (jMain D ad cy) (some (.int z.1), z.2)) {g : Int32 → jS → Option (Int32 × jS)} (hg : ∀ (x1 : Int32) (S : jS), g x1 S = some z → jJ X (jMain D ad cy) 26 [(0, .ref (ad 41)), (1, .int x1)] [] S) {k48 : jS → Option (Int32 × jS)} (hk48 : ∀  (S : jS), k48  S = some z → jJ X (jMain D ad cy) 48 [(0, .ref (ad 41))] [] S) {k66 : Int32 → jS → Option (Int32 × jS)} (hk66 : ∀ (x1 : Int32) (S : jS), k66 x1 S = some z → jJ X (jMain D ad cy) 66 [(0, .ref (ad 41)), (1, .int x1)] [] S) (x1 : Int32) (S : jS) (hE : f_X12_read_26  g k48 k66 x1 S = some z) : jJ X (jMain D ad cy) 26 [(0, .ref (ad 41)), (1, .int x1)] [] S := by
  unfold f_X12_read_26 at hE
  refine j_aload_n C dX12_read_26 0 rfl ?_
  refine g_X12_249_41 C dX12_read_27 ?_
  refine j_if_eq (tgt := 66) C dX12_read_30 rfl hE (fun hE => ?_) (fun hE => ?_)
  · exact hk66 x1 S hE
  · refine j_aload_n C dX12_read_33 0 rfl ?_
    refine k_X12_280_X12_takesHouse C dX12_read_34 hE (Nat.le_of_ble_eq_true rfl) (Nat.le_of_ble_eq_true rfl) (Nat.le_of_ble_eq_true rfl) (fun v2 S1 hE => ?_)
    refine j_if_eq (tgt := 48) C dX12_read_37 rfl hE (fun hE => ?_) (fun hE => ?_)
    · refine j_sub [0] rfl ?_
      exact hk48  S1 hE
    · refine j_aload_n C dX12_read_40 0 rfl ?_
      refine g_X12_249_41 C dX12_read_41 ?_
      refine j_iconst (v := 3) C dX12_read_44 jc_ic_3 ?_
      refine j_icmp_eq (tgt := 56) C dX12_read_45 rfl hE (fun hE => ?_) (fun hE => ?_)
      · refine j_aload_n C dX12_read_56 0 rfl ?_
        refine k_X12_265_X12_goBehind C dX12_read_57 hE (Nat.le_of_ble_eq_true rfl) (Nat.le_of_ble_eq_true rfl) (Nat.le_of_ble_eq_true rfl) (fun S3 hE => ?_)
        refine j_iinc (v := (x1 + 1)) (lv' := [(1, .int (x1 + 1)), (0, .ref (ad 41))]) C dX12_read_60 1 rfl (congrArg (fun w => x1 + w) jc_ic_1) (by decide) rfl ?_
        refine j_goto (tgt := 26) C dX12_read_63 rfl ?_
        refine j_sub [1, 0] rfl ?_
        exact hg (x1 + 1) S3 hE
      · refine j_sub [0] rfl ?_
        exact hk48  S1 hE
theorem q_X12_read_26 {X : jX} {D : va_G} {ad : Nat → Nat} {cy : Nat → ClassId} (C : jC X (jMain D ad cy) RX12 cX12_read (some .int) 3 6 132) {z : Int32 × jS} (Q : jRet X (jMain D ad cy) (some (.int z.1), z.2)) {k48 : jS → Option (Int32 × jS)} (hk48 : ∀  (S : jS), k48  S = some z → jJ X (jMain D ad cy) 48 [(0, .ref (ad 41))] [] S) {k66 : Int32 → jS → Option (Int32 × jS)} (hk66 : ∀ (x1 : Int32) (S : jS), k66 x1 S = some z → jJ X (jMain D ad cy) 66 [(0, .ref (ad 41)), (1, .int x1)] [] S) (x1 : Int32) (S : jS) (hE : lp_X12_read_26  k48 k66 x1 S = some z) : jJ X (jMain D ad cy) 26 [(0, .ref (ad 41)), (1, .int x1)] [] S :=
  jloop_P (α := Int32 × jS) (B := (fun g q => f_X12_read_26  (fun x1 S => g (x1, S)) k48 k66 q.1 q.2)) (P := fun q => jJ X (jMain D ad cy) 26 [(0, .ref (ad 41)), (1, .int q.1)] [] q.2) (fun g q hg h => p_X12_read_26 C Q (g := fun x1 S => g (x1, S)) (fun x1 S h => hg (x1, S) h) hk48 hk66 q.1 q.2 h) jN (x1, S) hE
set_option maxRecDepth 100000 in
theorem p_X12_read_48 {X : jX} {D : va_G} {ad : Nat → Nat} {cy : Nat → ClassId} (C : jC X (jMain D ad cy) RX12 cX12_read (some .int) 3 6 132) {z : Int32 × jS} (Q : jRet X (jMain D ad cy) (some (.int z.1), z.2))   (S : jS) (hE : f_X12_read_48    S = some z) : jJ X (jMain D ad cy) 48 [(0, .ref (ad 41))] [] S := by
  unfold f_X12_read_48 at hE
  refine j_bipush (v := (-10)) C dX12_read_48 jc_bp_m10 ?_
  refine j_aload_n C dX12_read_50 0 rfl ?_
  refine g_X12_243_41 C dX12_read_51 ?_
  refine j_isub C dX12_read_54 ?_
  exact j_iret C Q dX12_read_55 hE
set_option maxRecDepth 100000 in
theorem p_X12_read_68 {X : jX} {D : va_G} {ad : Nat → Nat} {cy : Nat → ClassId} (C : jC X (jMain D ad cy) RX12 cX12_read (some .int) 3 6 132) {z : Int32 × jS} (Q : jRet X (jMain D ad cy) (some (.int z.1), z.2)) {g : Int32 → Int32 → jS → Option (Int32 × jS)} (hg : ∀ (x1 : Int32) (x2 : Int32) (S : jS), g x1 x2 S = some z → jJ X (jMain D ad cy) 68 [(0, .ref (ad 41)), (1, .int x1), (2, .int x2)] [] S) {k92 : Int32 → jS → Option (Int32 × jS)} (hk92 : ∀ (x1 : Int32) (S : jS), k92 x1 S = some z → jJ X (jMain D ad cy) 92 [(1, .int x1)] [] S) (x1 : Int32) (x2 : Int32) (S : jS) (hE : f_X12_read_68  g k92 x1 x2 S = some z) : jJ X (jMain D ad cy) 68 [(0, .ref (ad 41)), (1, .int x1), (2, .int x2)] [] S := by
  unfold f_X12_read_68 at hE
  refine j_iload_n C dX12_read_68 2 rfl ?_
  refine j_bipush (v := 69) C dX12_read_69 jc_bp_69 ?_
  refine j_icmp_ge (tgt := 92) C dX12_read_71 rfl hE (fun hE => ?_) (fun hE => ?_)
  · refine j_sub [1] rfl ?_
    exact hk92 x1 S hE
  · refine j_aload_n C dX12_read_74 0 rfl ?_
    refine g_X12_7_41 C dX12_read_75 ?_
    refine j_iload_n C dX12_read_78 2 rfl ?_
    refine j_aload_n C dX12_read_79 0 rfl ?_
    refine g_X12_51_41 C dX12_read_80 ?_
    refine j_iload_n C dX12_read_83 2 rfl ?_
    refine l_54 C dX12_read_84 hE (fun v1 hE => ?_)
    refine s_42 C dX12_read_85 hE (fun S2 hE => ?_)
    refine j_iinc (v := (x2 + 1)) (lv' := [(2, .int (x2 + 1)), (0, .ref (ad 41)), (1, .int x1)]) C dX12_read_86 2 rfl (congrArg (fun w => x2 + w) jc_ic_1) (by decide) rfl ?_
    refine j_goto (tgt := 68) C dX12_read_89 rfl ?_
    refine j_sub [1, 2, 0] rfl ?_
    exact hg x1 (x2 + 1) S2 hE
theorem q_X12_read_68 {X : jX} {D : va_G} {ad : Nat → Nat} {cy : Nat → ClassId} (C : jC X (jMain D ad cy) RX12 cX12_read (some .int) 3 6 132) {z : Int32 × jS} (Q : jRet X (jMain D ad cy) (some (.int z.1), z.2)) {k92 : Int32 → jS → Option (Int32 × jS)} (hk92 : ∀ (x1 : Int32) (S : jS), k92 x1 S = some z → jJ X (jMain D ad cy) 92 [(1, .int x1)] [] S) (x1 : Int32) (x2 : Int32) (S : jS) (hE : lp_X12_read_68  k92 x1 x2 S = some z) : jJ X (jMain D ad cy) 68 [(0, .ref (ad 41)), (1, .int x1), (2, .int x2)] [] S :=
  jloop_P (α := Int32 × Int32 × jS) (B := (fun g q => f_X12_read_68  (fun x1 x2 S => g (x1, x2, S)) k92 q.1 q.2.1 q.2.2)) (P := fun q => jJ X (jMain D ad cy) 68 [(0, .ref (ad 41)), (1, .int q.1), (2, .int q.2.1)] [] q.2.2) (fun g q hg h => p_X12_read_68 C Q (g := fun x1 x2 S => g (x1, x2, S)) (fun x1 x2 S h => hg (x1, x2, S) h) hk92 q.1 q.2.1 q.2.2 h) jN (x1, x2, S) hE
set_option maxRecDepth 100000 in
theorem p_X12_read_92 {X : jX} {D : va_G} {ad : Nat → Nat} {cy : Nat → ClassId} (C : jC X (jMain D ad cy) RX12 cX12_read (some .int) 3 6 132) {z : Int32 × jS} (Q : jRet X (jMain D ad cy) (some (.int z.1), z.2))  (x1 : Int32) (S : jS) (hE : f_X12_read_92   x1 S = some z) : jJ X (jMain D ad cy) 92 [(1, .int x1)] [] S := by
  unfold f_X12_read_92 at hE
  refine j_iload_n C dX12_read_92 0 rfl ?_
  exact j_iret C Q dX12_read_93 hE
set_option maxRecDepth 100000 in
theorem p_X12_read_66 {X : jX} {D : va_G} {ad : Nat → Nat} {cy : Nat → ClassId} (C : jC X (jMain D ad cy) RX12 cX12_read (some .int) 3 6 132) {z : Int32 × jS} (Q : jRet X (jMain D ad cy) (some (.int z.1), z.2))  (x1 : Int32) (S : jS) (hE : f_X12_read_66   x1 S = some z) : jJ X (jMain D ad cy) 66 [(0, .ref (ad 41)), (1, .int x1)] [] S := by
  unfold f_X12_read_66 at hE
  refine j_iconst (v := 0) C dX12_read_66 jc_ic_0 ?_
  refine j_istore_n (i := 2) (lv' := [(2, .int 0), (0, .ref (ad 41)), (1, .int x1)]) C dX12_read_67 rfl (by decide) rfl ?_
  refine j_sub [1, 2, 0] rfl ?_
  exact q_X12_read_68 C Q (p_X12_read_92 C Q ) x1 0 S hE
set_option maxRecDepth 100000 in
theorem p_X12_read_e {X : jX} {D : va_G} {ad : Nat → Nat} {cy : Nat → ClassId} (C : jC X (jMain D ad cy) RX12 cX12_read (some .int) 3 6 132) {z : Int32 × jS} (Q : jRet X (jMain D ad cy) (some (.int z.1), z.2))   (S : jS) (hE : f_X12_read_e    S = some z) : jJ X (jMain D ad cy) 0 [(0, .ref (ad 41))] [] S := by
  unfold f_X12_read_e at hE
  refine j_aload_n C dX12_read_0 0 rfl ?_
  refine j_iconst (v := 0) C dX12_read_1 jc_ic_0 ?_
  refine k_X12_261_X12_lookAt C dX12_read_2 hE (Nat.le_of_ble_eq_true rfl) (Nat.le_of_ble_eq_true rfl) (Nat.le_of_ble_eq_true rfl) (fun S1 hE => ?_)
  refine j_aload_n C dX12_read_5 0 rfl ?_
  refine k_X12_276_X12_takesFirst C dX12_read_6 hE (Nat.le_of_ble_eq_true rfl) (Nat.le_of_ble_eq_true rfl) (Nat.le_of_ble_eq_true rfl) (fun v3 S2 hE => ?_)
  refine j_if_ne (tgt := 20) C dX12_read_9 rfl hE (fun hE => ?_) (fun hE => ?_)
  · refine j_aload_n C dX12_read_20 0 rfl ?_
    refine k_X12_265_X12_goBehind C dX12_read_21 hE (Nat.le_of_ble_eq_true rfl) (Nat.le_of_ble_eq_true rfl) (Nat.le_of_ble_eq_true rfl) (fun S4 hE => ?_)
    refine j_iconst (v := 1) C dX12_read_24 jc_ic_1 ?_
    refine j_istore_n (i := 1) (lv' := [(1, .int 1), (0, .ref (ad 41))]) C dX12_read_25 rfl (by decide) rfl ?_
    refine j_sub [1, 0] rfl ?_
    exact q_X12_read_26 C Q (p_X12_read_48 C Q ) (p_X12_read_66 C Q ) 1 S4 hE
  · refine j_bipush (v := (-10)) C dX12_read_12 jc_bp_m10 ?_
    refine j_aload_n C dX12_read_14 0 rfl ?_
    refine g_X12_243_41 C dX12_read_15 ?_
    refine j_isub C dX12_read_18 ?_
    exact j_iret C Q dX12_read_19 hE
theorem c_X12_read {l : Launch} {D : va_G} {ad : Nat → Nat} {cy : Nat → ClassId} (hO : jOk (jMain D ad cy))  (S : jS) {z : Int32 × jS} (hz : f_X12_read  S = some z) : Met l yX12_read (.code yX12_read cX12_read 3 (some .int) :: jT) { frames := 6, cells := 0, slots := 0, locals := 132 } (va_Pc [.ref (ad 41)] (jInv (jMain D ad cy) S)) (jQ (jMain D ad cy) (some (.int z.1), z.2)) 0 0 (yA (jMain D ad cy)) :=
  jMet hO (by decide +kernel) rfl (Nat.le_of_ble_eq_true rfl) (fun X _ C Q => p_X12_read_e C Q  S hz)
set_option maxRecDepth 100000 in
theorem p_X7_byteAt_29 {X : jX} {D : va_G} {ad : Nat → Nat} {cy : Nat → ClassId} (C : jC X (jMain D ad cy) RX7 cX7_byteAt (some .int) 2 0 0) {z : Int32 × jS} (Q : jRet X (jMain D ad cy) (some (.int z.1), z.2))  (a0 : Int32) (S : jS) (hE : f_X7_byteAt_29   a0 S = some z) : jJ X (jMain D ad cy) 29 [] [.int a0] S := by
  unfold f_X7_byteAt_29 at hE
  exact j_iret C Q dX7_byteAt_29 hE
set_option maxRecDepth 100000 in
theorem p_X7_byteAt_28 {X : jX} {D : va_G} {ad : Nat → Nat} {cy : Nat → ClassId} (C : jC X (jMain D ad cy) RX7 cX7_byteAt (some .int) 2 0 0) {z : Int32 × jS} (Q : jRet X (jMain D ad cy) (some (.int z.1), z.2))   (S : jS) (hE : f_X7_byteAt_28    S = some z) : jJ X (jMain D ad cy) 28 [] [] S := by
  unfold f_X7_byteAt_28 at hE
  refine j_iconst (v := (-1)) C dX7_byteAt_28 jc_ic_m1 ?_
  exact p_X7_byteAt_29 C Q  (-1) S hE
set_option maxRecDepth 100000 in
theorem p_X7_byteAt_e {X : jX} {D : va_G} {ad : Nat → Nat} {cy : Nat → ClassId} (C : jC X (jMain D ad cy) RX7 cX7_byteAt (some .int) 2 0 0) {z : Int32 × jS} (Q : jRet X (jMain D ad cy) (some (.int z.1), z.2))  (x1 : Int32) (S : jS) (hE : f_X7_byteAt_e   x1 S = some z) : jJ X (jMain D ad cy) 0 [(0, .ref (ad 18)), (1, .int x1)] [] S := by
  unfold f_X7_byteAt_e at hE
  refine j_iload_n C dX7_byteAt_0 1 rfl ?_
  refine j_if_lt (tgt := 28) C dX7_byteAt_1 rfl hE (fun hE => ?_) (fun hE => ?_)
  · refine j_sub [] rfl ?_
    exact p_X7_byteAt_28 C Q   S hE
  · refine j_iload_n C dX7_byteAt_4 1 rfl ?_
    refine j_aload_n C dX7_byteAt_5 0 rfl ?_
    refine g_X7_23_18 C dX7_byteAt_6 ?_
    refine j_icmp_ge (tgt := 28) C dX7_byteAt_9 rfl hE (fun hE => ?_) (fun hE => ?_)
    · refine j_sub [] rfl ?_
      exact p_X7_byteAt_28 C Q   S hE
    · refine j_iload_n C dX7_byteAt_12 1 rfl ?_
      refine j_sipush (v := 150) C dX7_byteAt_13 jc_sp_150 ?_
      refine j_icmp_ge (tgt := 28) C dX7_byteAt_16 rfl hE (fun hE => ?_) (fun hE => ?_)
      · refine j_sub [] rfl ?_
        exact p_X7_byteAt_28 C Q   S hE
      · refine j_aload_n C dX7_byteAt_19 0 rfl ?_
        refine g_X7_19_18 C dX7_byteAt_20 ?_
        refine j_iload_n C dX7_byteAt_23 1 rfl ?_
        refine l_20 C dX7_byteAt_24 hE (fun v1 hE => ?_)
        refine j_goto (tgt := 29) C dX7_byteAt_25 rfl ?_
        refine j_sub [] rfl ?_
        exact p_X7_byteAt_29 C Q  v1 S hE
theorem c_X7_byteAt {l : Launch} {D : va_G} {ad : Nat → Nat} {cy : Nat → ClassId} (hO : jOk (jMain D ad cy)) (x1 : Int32) (S : jS) {z : Int32 × jS} (hz : f_X7_byteAt x1 S = some z) : Met l yX7_byteAt (.code yX7_byteAt cX7_byteAt 2 (some .int) :: jT) { frames := 0, cells := 0, slots := 0, locals := 0 } (va_Pc [.ref (ad 18), .int x1] (jInv (jMain D ad cy) S)) (jQ (jMain D ad cy) (some (.int z.1), z.2)) 0 0 (yA (jMain D ad cy)) :=
  jMet hO (by decide +kernel) rfl (Nat.le_of_ble_eq_true rfl) (fun X _ C Q => p_X7_byteAt_e C Q x1 S hz)
theorem k_X7_78_X7_byteAt {X : jX} {D : va_G} {ad : Nat → Nat} {cy : Nat → ClassId} {cc : ByteArray} {ret : Option FieldType} {nL fr lo pc : Nat} {lv : List (Nat × Value)} {st : List Value} {S : jS} {β : Type} {z : β} (C : jC X (jMain D ad cy) RX7 cc ret nL fr lo) {a0 : Int32} {E : Int32 → jS → Option β} (d : decode cc pc = .ok (.invokevirtual 78, 3)) (hE : jcl (f_X7_byteAt a0 S) E = some z) (hfr : 1 ≤ fr) (hlo : 21 ≤ lo) (hst : (st.map fun v => v.category).sum ≤ 8) (K : ∀ (v : Int32) (S1 : jS), E v S1 = some z → jJ X (jMain D ad cy) (pc + 3) lv (.int v :: st) S1) : jJ X (jMain D ad cy) pc lv (.int a0 :: .ref (ad 18) :: st) S := by
  obtain ⟨v, h1, h2⟩ := jcl_some hE
  exact j_callV (k := 18) (ci := 7) (T := TX7) (N := 10) (n := 1) (As := [.int a0]) C (c_X7_byteAt C.2.2.2.2.2.2.1 a0 S h1) tw_423 tw_425 tw_4 tw_79 tw_426 (by decide +kernel) rfl (by decide : 18 < 56) rfl rfl hfr hlo hst rfl d (K _ _ h2)
set_option maxRecDepth 100000 in
theorem p_X7_isLetter_17 {X : jX} {D : va_G} {ad : Nat → Nat} {cy : Nat → ClassId} (C : jC X (jMain D ad cy) RX7 cX7_isLetter (some .boolean) 1 0 0) {z : Int32 × jS} (Q : jRet X (jMain D ad cy) (some (.int z.1), z.2))  (a0 : Int32) (S : jS) (hE : f_X7_isLetter_17   a0 S = some z) : jJ X (jMain D ad cy) 17 [] [.int a0] S := by
  unfold f_X7_isLetter_17 at hE
  exact j_zret C Q dX7_isLetter_17 hE
set_option maxRecDepth 100000 in
theorem p_X7_isLetter_16 {X : jX} {D : va_G} {ad : Nat → Nat} {cy : Nat → ClassId} (C : jC X (jMain D ad cy) RX7 cX7_isLetter (some .boolean) 1 0 0) {z : Int32 × jS} (Q : jRet X (jMain D ad cy) (some (.int z.1), z.2))   (S : jS) (hE : f_X7_isLetter_16    S = some z) : jJ X (jMain D ad cy) 16 [] [] S := by
  unfold f_X7_isLetter_16 at hE
  refine j_iconst (v := 0) C dX7_isLetter_16 jc_ic_0 ?_
  exact p_X7_isLetter_17 C Q  0 S hE
set_option maxRecDepth 100000 in
theorem p_X7_isLetter_e {X : jX} {D : va_G} {ad : Nat → Nat} {cy : Nat → ClassId} (C : jC X (jMain D ad cy) RX7 cX7_isLetter (some .boolean) 1 0 0) {z : Int32 × jS} (Q : jRet X (jMain D ad cy) (some (.int z.1), z.2))  (x0 : Int32) (S : jS) (hE : f_X7_isLetter_e   x0 S = some z) : jJ X (jMain D ad cy) 0 [(0, .int x0)] [] S := by
  unfold f_X7_isLetter_e at hE
  refine j_iload_n C dX7_isLetter_0 0 rfl ?_
  refine j_bipush (v := 97) C dX7_isLetter_1 jc_bp_97 ?_
  refine j_icmp_lt (tgt := 16) C dX7_isLetter_3 rfl hE (fun hE => ?_) (fun hE => ?_)
  · refine j_sub [] rfl ?_
    exact p_X7_isLetter_16 C Q   S hE
  · refine j_iload_n C dX7_isLetter_6 0 rfl ?_
    refine j_bipush (v := 122) C dX7_isLetter_7 jc_bp_122 ?_
    refine j_icmp_gt (tgt := 16) C dX7_isLetter_9 rfl hE (fun hE => ?_) (fun hE => ?_)
    · refine j_sub [] rfl ?_
      exact p_X7_isLetter_16 C Q   S hE
    · refine j_iconst (v := 1) C dX7_isLetter_12 jc_ic_1 ?_
      refine j_goto (tgt := 17) C dX7_isLetter_13 rfl ?_
      refine j_sub [] rfl ?_
      exact p_X7_isLetter_17 C Q  1 S hE
theorem c_X7_isLetter {l : Launch} {D : va_G} {ad : Nat → Nat} {cy : Nat → ClassId} (hO : jOk (jMain D ad cy)) (x0 : Int32) (S : jS) {z : Int32 × jS} (hz : f_X7_isLetter x0 S = some z) : Met l yX7_isLetter (.code yX7_isLetter cX7_isLetter 1 (some .boolean) :: jT) { frames := 0, cells := 0, slots := 0, locals := 0 } (va_Pc [.int x0] (jInv (jMain D ad cy) S)) (jQ (jMain D ad cy) (some (.int z.1), z.2)) 0 0 (yA (jMain D ad cy)) :=
  jMet hO (by decide +kernel) rfl (Nat.le_of_ble_eq_true rfl) (fun X _ C Q => p_X7_isLetter_e C Q x0 S hz)
theorem k_X7_88_X7_isLetter {X : jX} {D : va_G} {ad : Nat → Nat} {cy : Nat → ClassId} {cc : ByteArray} {ret : Option FieldType} {nL fr lo pc : Nat} {lv : List (Nat × Value)} {st : List Value} {S : jS} {β : Type} {z : β} (C : jC X (jMain D ad cy) RX7 cc ret nL fr lo) {a0 : Int32} {E : Int32 → jS → Option β} (d : decode cc pc = .ok (.invokestatic 88, 3)) (hE : jcl (f_X7_isLetter a0 S) E = some z) (hfr : 1 ≤ fr) (hlo : 20 ≤ lo) (hst : (st.map fun v => v.category).sum ≤ 8) (K : ∀ (v : Int32) (S1 : jS), E v S1 = some z → jJ X (jMain D ad cy) (pc + 3) lv (.int v :: st) S1) : jJ X (jMain D ad cy) pc lv (.int a0 :: st) S := by
  obtain ⟨v, h1, h2⟩ := jcl_some hE
  exact j_callS (n := 1) (As := [.int a0]) C (c_X7_isLetter C.2.2.2.2.2.2.1 a0 S h1) tw_427 tw_428 tw_79 tw_429 (by decide +kernel) rfl hfr hlo hst rfl d (K _ _ h2)
set_option maxRecDepth 100000 in
theorem p_X7_isFigure_17 {X : jX} {D : va_G} {ad : Nat → Nat} {cy : Nat → ClassId} (C : jC X (jMain D ad cy) RX7 cX7_isFigure (some .boolean) 1 0 0) {z : Int32 × jS} (Q : jRet X (jMain D ad cy) (some (.int z.1), z.2))  (a0 : Int32) (S : jS) (hE : f_X7_isFigure_17   a0 S = some z) : jJ X (jMain D ad cy) 17 [] [.int a0] S := by
  unfold f_X7_isFigure_17 at hE
  exact j_zret C Q dX7_isFigure_17 hE
set_option maxRecDepth 100000 in
theorem p_X7_isFigure_16 {X : jX} {D : va_G} {ad : Nat → Nat} {cy : Nat → ClassId} (C : jC X (jMain D ad cy) RX7 cX7_isFigure (some .boolean) 1 0 0) {z : Int32 × jS} (Q : jRet X (jMain D ad cy) (some (.int z.1), z.2))   (S : jS) (hE : f_X7_isFigure_16    S = some z) : jJ X (jMain D ad cy) 16 [] [] S := by
  unfold f_X7_isFigure_16 at hE
  refine j_iconst (v := 0) C dX7_isFigure_16 jc_ic_0 ?_
  exact p_X7_isFigure_17 C Q  0 S hE
set_option maxRecDepth 100000 in
theorem p_X7_isFigure_e {X : jX} {D : va_G} {ad : Nat → Nat} {cy : Nat → ClassId} (C : jC X (jMain D ad cy) RX7 cX7_isFigure (some .boolean) 1 0 0) {z : Int32 × jS} (Q : jRet X (jMain D ad cy) (some (.int z.1), z.2))  (x0 : Int32) (S : jS) (hE : f_X7_isFigure_e   x0 S = some z) : jJ X (jMain D ad cy) 0 [(0, .int x0)] [] S := by
  unfold f_X7_isFigure_e at hE
  refine j_iload_n C dX7_isFigure_0 0 rfl ?_
  refine j_bipush (v := 48) C dX7_isFigure_1 jc_bp_48 ?_
  refine j_icmp_lt (tgt := 16) C dX7_isFigure_3 rfl hE (fun hE => ?_) (fun hE => ?_)
  · refine j_sub [] rfl ?_
    exact p_X7_isFigure_16 C Q   S hE
  · refine j_iload_n C dX7_isFigure_6 0 rfl ?_
    refine j_bipush (v := 57) C dX7_isFigure_7 jc_bp_57 ?_
    refine j_icmp_gt (tgt := 16) C dX7_isFigure_9 rfl hE (fun hE => ?_) (fun hE => ?_)
    · refine j_sub [] rfl ?_
      exact p_X7_isFigure_16 C Q   S hE
    · refine j_iconst (v := 1) C dX7_isFigure_12 jc_ic_1 ?_
      refine j_goto (tgt := 17) C dX7_isFigure_13 rfl ?_
      refine j_sub [] rfl ?_
      exact p_X7_isFigure_17 C Q  1 S hE
theorem c_X7_isFigure {l : Launch} {D : va_G} {ad : Nat → Nat} {cy : Nat → ClassId} (hO : jOk (jMain D ad cy)) (x0 : Int32) (S : jS) {z : Int32 × jS} (hz : f_X7_isFigure x0 S = some z) : Met l yX7_isFigure (.code yX7_isFigure cX7_isFigure 1 (some .boolean) :: jT) { frames := 0, cells := 0, slots := 0, locals := 0 } (va_Pc [.int x0] (jInv (jMain D ad cy) S)) (jQ (jMain D ad cy) (some (.int z.1), z.2)) 0 0 (yA (jMain D ad cy)) :=
  jMet hO (by decide +kernel) rfl (Nat.le_of_ble_eq_true rfl) (fun X _ C Q => p_X7_isFigure_e C Q x0 S hz)
theorem k_X7_94_X7_isFigure {X : jX} {D : va_G} {ad : Nat → Nat} {cy : Nat → ClassId} {cc : ByteArray} {ret : Option FieldType} {nL fr lo pc : Nat} {lv : List (Nat × Value)} {st : List Value} {S : jS} {β : Type} {z : β} (C : jC X (jMain D ad cy) RX7 cc ret nL fr lo) {a0 : Int32} {E : Int32 → jS → Option β} (d : decode cc pc = .ok (.invokestatic 94, 3)) (hE : jcl (f_X7_isFigure a0 S) E = some z) (hfr : 1 ≤ fr) (hlo : 20 ≤ lo) (hst : (st.map fun v => v.category).sum ≤ 8) (K : ∀ (v : Int32) (S1 : jS), E v S1 = some z → jJ X (jMain D ad cy) (pc + 3) lv (.int v :: st) S1) : jJ X (jMain D ad cy) pc lv (.int a0 :: st) S := by
  obtain ⟨v, h1, h2⟩ := jcl_some hE
  exact j_callS (n := 1) (As := [.int a0]) C (c_X7_isFigure C.2.2.2.2.2.2.1 a0 S h1) tw_434 tw_435 tw_79 tw_436 (by decide +kernel) rfl hfr hlo hst rfl d (K _ _ h2)
