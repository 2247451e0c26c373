set_option maxRecDepth 100000 in
theorem p_X9_lets_37 {X : jX} {D : va_G} {ad : Nat → Nat} {cy : Nat → ClassId} (C : jC X (jMain D ad cy) RX9 cX9_lets (some .boolean) 4 2 48) {z : Int32 × jS} (Q : jRet X (jMain D ad cy) (some (.int z.1), z.2))  (a0 : Int32) (S : jS) (hE : f_X9_lets_37   a0 S = some z) : jJ X (jMain D ad cy) 37 [] [.int a0] S := by
  unfold f_X9_lets_37 at hE
  exact j_zret C Q dX9_lets_37 hE
set_option maxRecDepth 100000 in
theorem p_X9_lets_32 {X : jX} {D : va_G} {ad : Nat → Nat} {cy : Nat → ClassId} (C : jC X (jMain D ad cy) RX9 cX9_lets (some .boolean) 4 2 48) {z : Int32 × jS} (Q : jRet X (jMain D ad cy) (some (.int z.1), z.2))   (S : jS) (hE : f_X9_lets_32    S = some z) : jJ X (jMain D ad cy) 32 [] [] S := by
  unfold f_X9_lets_32 at hE
  refine j_iconst (v := 1) C dX9_lets_32 jc_ic_1 ?_
  refine j_goto (tgt := 37) C dX9_lets_33 rfl ?_
  exact p_X9_lets_37 C Q  1 S hE
set_option maxRecDepth 100000 in
theorem p_X9_lets_36 {X : jX} {D : va_G} {ad : Nat → Nat} {cy : Nat → ClassId} (C : jC X (jMain D ad cy) RX9 cX9_lets (some .boolean) 4 2 48) {z : Int32 × jS} (Q : jRet X (jMain D ad cy) (some (.int z.1), z.2))   (S : jS) (hE : f_X9_lets_36    S = some z) : jJ X (jMain D ad cy) 36 [] [] S := by
  unfold f_X9_lets_36 at hE
  refine j_iconst (v := 0) C dX9_lets_36 jc_ic_0 ?_
  exact p_X9_lets_37 C Q  0 S hE
set_option maxRecDepth 100000 in
theorem p_X9_lets_e {X : jX} {D : va_G} {ad : Nat → Nat} {cy : Nat → ClassId} (C : jC X (jMain D ad cy) RX9 cX9_lets (some .boolean) 4 2 48) {z : Int32 × jS} (Q : jRet X (jMain D ad cy) (some (.int z.1), z.2))  (x1 : Int32) (x2 : Int32) (x3 : Int32) (S : jS) (hE : f_X9_lets_e   x1 x2 x3 S = some z) : jJ X (jMain D ad cy) 0 [(0, .ref (ad 9)), (1, .int x1), (2, .int x2), (3, .int x3)] [] S := by
  unfold f_X9_lets_e at hE
  refine j_aload_n C dX9_lets_0 0 rfl ?_
  refine j_iload_n C dX9_lets_1 1 rfl ?_
  refine j_iload_n C dX9_lets_2 2 rfl ?_
  refine j_iload_n C dX9_lets_3 3 rfl ?_
  refine k_X9_7_X0_lets_r9 C dX9_lets_4 hE (Nat.le_of_ble_eq_true rfl) (Nat.le_of_ble_eq_true rfl) (Nat.le_of_ble_eq_true rfl) (fun v2 S1 hE => ?_)
  refine j_if_ne (tgt := 32) C dX9_lets_7 rfl hE (fun hE => ?_) (fun hE => ?_)
  · refine j_sub [] rfl ?_
    exact p_X9_lets_32 C Q   S1 hE
  · refine j_aload_n C dX9_lets_10 0 rfl ?_
    refine g_X9_11_9 C dX9_lets_11 ?_
    refine j_iload_n C dX9_lets_14 1 rfl ?_
    refine k_X9_17_X3_isSquare C dX9_lets_15 hE (Nat.le_of_ble_eq_true rfl) (Nat.le_of_ble_eq_true rfl) (Nat.le_of_ble_eq_true rfl) (fun v4 S3 hE => ?_)
    refine j_if_eq (tgt := 36) C dX9_lets_18 rfl hE (fun hE => ?_) (fun hE => ?_)
    · refine j_sub [] rfl ?_
      exact p_X9_lets_36 C Q   S3 hE
    · refine j_aload_n C dX9_lets_21 0 rfl ?_
      refine g_X9_11_9 C dX9_lets_22 ?_
      refine j_iload_n C dX9_lets_25 2 rfl ?_
      refine k_X9_17_X3_isSquare C dX9_lets_26 hE (Nat.le_of_ble_eq_true rfl) (Nat.le_of_ble_eq_true rfl) (Nat.le_of_ble_eq_true rfl) (fun v6 S5 hE => ?_)
      refine j_if_eq (tgt := 36) C dX9_lets_29 rfl hE (fun hE => ?_) (fun hE => ?_)
      · refine j_sub [] rfl ?_
        exact p_X9_lets_36 C Q   S5 hE
      · refine j_sub [] rfl ?_
        exact p_X9_lets_32 C Q   S5 hE
theorem c_X9_lets {l : Launch} {D : va_G} {ad : Nat → Nat} {cy : Nat → ClassId} (hO : jOk (jMain D ad cy)) (x1 : Int32) (x2 : Int32) (x3 : Int32) (S : jS) {z : Int32 × jS} (hz : f_X9_lets x1 x2 x3 S = some z) : Met l yX9_lets (.code yX9_lets cX9_lets 4 (some .boolean) :: jT) { frames := 2, cells := 0, slots := 0, locals := 48 } (va_Pc [.ref (ad 9), .int x1, .int x2, .int x3] (jInv (jMain D ad cy) S)) (jQ (jMain D ad cy) (some (.int z.1), z.2)) 0 0 (yA (jMain D ad cy)) :=
  jMet hO (by decide +kernel) rfl (Nat.le_of_ble_eq_true rfl) (fun X _ C Q => p_X9_lets_e C Q x1 x2 x3 S hz)
theorem k_X2_35_X9_lets {X : jX} {D : va_G} {ad : Nat → Nat} {cy : Nat → ClassId} {cc : ByteArray} {ret : Option FieldType} {nL fr lo pc : Nat} {lv : List (Nat × Value)} {st : List Value} {S : jS} {β : Type} {z : β} (C : jC X (jMain D ad cy) RX2 cc ret nL fr lo) {a0 : Int32} {a1 : Int32} {a2 : Int32} {E : Int32 → jS → Option β} (d : decode cc pc = .ok (.invokevirtual 35, 3)) (hE : jcl (f_X9_lets a0 a1 a2 S) E = some z) (hfr : 3 ≤ fr) (hlo : 71 ≤ lo) (hst : (st.map fun v => v.category).sum ≤ 8) (K : ∀ (v : Int32) (S1 : jS), E v S1 = some z → jJ X (jMain D ad cy) (pc + 3) lv (.int v :: st) S1) : jJ X (jMain D ad cy) pc lv (.int a2 :: .int a1 :: .int a0 :: .ref (ad 9) :: st) S := by
  obtain ⟨v, h1, h2⟩ := jcl_some hE
  exact j_callO (x := yX5_lets) (owner := "OddFridays$Plain") (k := 9) (ci := 9) (T := TX9) (N := 1) (n := 3) (As := [.int a0, .int a1, .int a2]) C (c_X9_lets C.2.2.2.2.2.2.1 a0 a1 a2 S h1) tw_547 tw_550 tw_548 tw_578 tw_579 tw_75 tw_580 tw_583 (by decide +kernel) rfl (by decide : 9 < 56) rfl rfl hfr hlo hst rfl d (K _ _ h2)
set_option maxRecDepth 100000 in
theorem p_X5_lets_r10_50 {X : jX} {D : va_G} {ad : Nat → Nat} {cy : Nat → ClassId} (C : jC X (jMain D ad cy) RX5 cX5_lets (some .boolean) 6 0 0) {z : Int32 × jS} (Q : jRet X (jMain D ad cy) (some (.int z.1), z.2))  (a0 : Int32) (S : jS) (hE : f_X5_lets_r10_50   a0 S = some z) : jJ X (jMain D ad cy) 50 [] [.int a0] S := by
  unfold f_X5_lets_r10_50 at hE
  exact j_zret C Q dX5_lets_50 hE
set_option maxRecDepth 100000 in
theorem p_X5_lets_r10_45 {X : jX} {D : va_G} {ad : Nat → Nat} {cy : Nat → ClassId} (C : jC X (jMain D ad cy) RX5 cX5_lets (some .boolean) 6 0 0) {z : Int32 × jS} (Q : jRet X (jMain D ad cy) (some (.int z.1), z.2))   (S : jS) (hE : f_X5_lets_r10_45    S = some z) : jJ X (jMain D ad cy) 45 [] [] S := by
  unfold f_X5_lets_r10_45 at hE
  refine j_iconst (v := 1) C dX5_lets_45 jc_ic_1 ?_
  refine j_goto (tgt := 50) C dX5_lets_46 rfl ?_
  exact p_X5_lets_r10_50 C Q  1 S hE
set_option maxRecDepth 100000 in
theorem p_X5_lets_r10_22 {X : jX} {D : va_G} {ad : Nat → Nat} {cy : Nat → ClassId} (C : jC X (jMain D ad cy) RX5 cX5_lets (some .boolean) 6 0 0) {z : Int32 × jS} (Q : jRet X (jMain D ad cy) (some (.int z.1), z.2))  (a0 : Int32) (x4 : Int32) (S : jS) (hE : f_X5_lets_r10_22   a0 x4 S = some z) : jJ X (jMain D ad cy) 22 [(4, .int x4)] [.int a0] S := by
  unfold f_X5_lets_r10_22 at hE
  refine j_istore (lv' := [(5, .int a0), (4, .int x4)]) C dX5_lets_22 (by decide) rfl ?_
  refine j_iload C dX5_lets_24 1 rfl ?_
  refine j_iload C dX5_lets_26 0 rfl ?_
  refine j_icmp_eq (tgt := 45) C dX5_lets_28 rfl hE (fun hE => ?_) (fun hE => ?_)
  · refine j_sub [] rfl ?_
    exact p_X5_lets_r10_45 C Q   S hE
  · refine j_iload C dX5_lets_31 1 rfl ?_
    refine j_iconst (v := 1) C dX5_lets_33 jc_ic_1 ?_
    refine j_icmp_lt (tgt := 45) C dX5_lets_34 rfl hE (fun hE => ?_) (fun hE => ?_)
    · refine j_sub [] rfl ?_
      exact p_X5_lets_r10_45 C Q   S hE
    · refine j_iload C dX5_lets_37 0 rfl ?_
      refine j_iload C dX5_lets_39 1 rfl ?_
      refine j_irem C dX5_lets_41 hE (fun v1 hE => ?_)
      refine j_if_eq (tgt := 49) C dX5_lets_42 rfl hE (fun hE => ?_) (fun hE => ?_)
      · refine j_iconst (v := 0) C dX5_lets_49 jc_ic_0 ?_
        refine j_sub [] rfl ?_
        exact p_X5_lets_r10_50 C Q  0 S hE
      · refine j_sub [] rfl ?_
        exact p_X5_lets_r10_45 C Q   S hE
set_option maxRecDepth 100000 in
theorem p_X5_lets_r10_10 {X : jX} {D : va_G} {ad : Nat → Nat} {cy : Nat → ClassId} (C : jC X (jMain D ad cy) RX5 cX5_lets (some .boolean) 6 0 0) {z : Int32 × jS} (Q : jRet X (jMain D ad cy) (some (.int z.1), z.2))  (a0 : Int32) (x1 : Int32) (x2 : Int32) (S : jS) (hE : f_X5_lets_r10_10   a0 x1 x2 S = some z) : jJ X (jMain D ad cy) 10 [(1, .int x1), (2, .int x2)] [.int a0] S := by
  unfold f_X5_lets_r10_10 at hE
  refine j_istore (lv' := [(4, .int a0), (1, .int x1), (2, .int x2)]) C dX5_lets_10 (by decide) rfl ?_
  refine j_iload_n C dX5_lets_12 1 rfl ?_
  refine j_iload_n C dX5_lets_13 2 rfl ?_
  refine j_icmp_ge (tgt := 21) C dX5_lets_14 rfl hE (fun hE => ?_) (fun hE => ?_)
  · refine j_iload_n C dX5_lets_21 1 rfl ?_
    refine j_sub [0] rfl ?_
    exact p_X5_lets_r10_22 C Q  x1 a0 S hE
  · refine j_iload_n C dX5_lets_17 2 rfl ?_
    refine j_goto (tgt := 22) C dX5_lets_18 rfl ?_
    refine j_sub [0] rfl ?_
    exact p_X5_lets_r10_22 C Q  x2 a0 S hE
set_option maxRecDepth 100000 in
theorem p_X5_lets_r10_e {X : jX} {D : va_G} {ad : Nat → Nat} {cy : Nat → ClassId} (C : jC X (jMain D ad cy) RX5 cX5_lets (some .boolean) 6 0 0) {z : Int32 × jS} (Q : jRet X (jMain D ad cy) (some (.int z.1), z.2))  (x1 : Int32) (x2 : Int32) (x3 : Int32) (S : jS) (hE : f_X5_lets_r10_e   x1 x2 x3 S = some z) : jJ X (jMain D ad cy) 0 [(0, .ref (ad 10)), (1, .int x1), (2, .int x2), (3, .int x3)] [] S := by
  unfold f_X5_lets_r10_e at hE
  refine j_iload_n C dX5_lets_0 1 rfl ?_
  refine j_iload_n C dX5_lets_1 2 rfl ?_
  refine j_icmp_ge (tgt := 9) C dX5_lets_2 rfl hE (fun hE => ?_) (fun hE => ?_)
  · refine j_iload_n C dX5_lets_9 2 rfl ?_
    refine j_sub [1, 2] rfl ?_
    exact p_X5_lets_r10_10 C Q  x2 x1 x2 S hE
  · refine j_iload_n C dX5_lets_5 1 rfl ?_
    refine j_goto (tgt := 10) C dX5_lets_6 rfl ?_
    refine j_sub [1, 2] rfl ?_
    exact p_X5_lets_r10_10 C Q  x1 x1 x2 S hE
theorem c_X5_lets_r10 {l : Launch} {D : va_G} {ad : Nat → Nat} {cy : Nat → ClassId} (hO : jOk (jMain D ad cy)) (x1 : Int32) (x2 : Int32) (x3 : Int32) (S : jS) {z : Int32 × jS} (hz : f_X5_lets_r10 x1 x2 x3 S = some z) : Met l yX5_lets (.code yX5_lets cX5_lets 6 (some .boolean) :: jT) { frames := 0, cells := 0, slots := 0, locals := 0 } (va_Pc [.ref (ad 10), .int x1, .int x2, .int x3] (jInv (jMain D ad cy) S)) (jQ (jMain D ad cy) (some (.int z.1), z.2)) 0 0 (yA (jMain D ad cy)) :=
  jMet hO (by decide +kernel) rfl (Nat.le_of_ble_eq_true rfl) (fun X _ C Q => p_X5_lets_r10_e C Q x1 x2 x3 S hz)
theorem k_X8_13_X5_lets_r10 {X : jX} {D : va_G} {ad : Nat → Nat} {cy : Nat → ClassId} {cc : ByteArray} {ret : Option FieldType} {nL fr lo pc : Nat} {lv : List (Nat × Value)} {st : List Value} {S : jS} {β : Type} {z : β} (C : jC X (jMain D ad cy) RX8 cc ret nL fr lo) {a0 : Int32} {a1 : Int32} {a2 : Int32} {E : Int32 → jS → Option β} (d : decode cc pc = .ok (.invokespecial 13, 3)) (hE : jcl (f_X5_lets_r10 a0 a1 a2 S) E = some z) (hfr : 1 ≤ fr) (hlo : 25 ≤ lo) (hst : (st.map fun v => v.category).sum ≤ 8) (K : ∀ (v : Int32) (S1 : jS), E v S1 = some z → jJ X (jMain D ad cy) (pc + 3) lv (.int v :: st) S1) : jJ X (jMain D ad cy) pc lv (.int a2 :: .int a1 :: .int a0 :: .ref (ad 10) :: st) S := by
  obtain ⟨v, h1, h2⟩ := jcl_some hE
  exact j_callSU (k := 10) (ci := 8) (T := TX8) (N := 1) (n := 3) (As := [.int a0, .int a1, .int a2]) C (c_X5_lets_r10 C.2.2.2.2.2.2.1 a0 a1 a2 S h1) tw_577 tw_550 tw_166 tw_548 tw_72 tw_583 (by decide +kernel) rfl (by decide : 10 < 56) rfl rfl hfr hlo hst rfl d (K _ _ h2)
set_option maxRecDepth 100000 in
theorem p_X8_lets_25 {X : jX} {D : va_G} {ad : Nat → Nat} {cy : Nat → ClassId} (C : jC X (jMain D ad cy) RX8 cX8_lets (some .boolean) 4 1 25) {z : Int32 × jS} (Q : jRet X (jMain D ad cy) (some (.int z.1), z.2))  (a0 : Int32) (S : jS) (hE : f_X8_lets_25   a0 S = some z) : jJ X (jMain D ad cy) 25 [] [.int a0] S := by
  unfold f_X8_lets_25 at hE
  exact j_zret C Q dX8_lets_25 hE
set_option maxRecDepth 100000 in
theorem p_X8_lets_24 {X : jX} {D : va_G} {ad : Nat → Nat} {cy : Nat → ClassId} (C : jC X (jMain D ad cy) RX8 cX8_lets (some .boolean) 4 1 25) {z : Int32 × jS} (Q : jRet X (jMain D ad cy) (some (.int z.1), z.2))   (S : jS) (hE : f_X8_lets_24    S = some z) : jJ X (jMain D ad cy) 24 [] [] S := by
  unfold f_X8_lets_24 at hE
  refine j_iconst (v := 0) C dX8_lets_24 jc_ic_0 ?_
  exact p_X8_lets_25 C Q  0 S hE
set_option maxRecDepth 100000 in
theorem p_X8_lets_e {X : jX} {D : va_G} {ad : Nat → Nat} {cy : Nat → ClassId} (C : jC X (jMain D ad cy) RX8 cX8_lets (some .boolean) 4 1 25) {z : Int32 × jS} (Q : jRet X (jMain D ad cy) (some (.int z.1), z.2))  (x1 : Int32) (x2 : Int32) (x3 : Int32) (S : jS) (hE : f_X8_lets_e   x1 x2 x3 S = some z) : jJ X (jMain D ad cy) 0 [(0, .ref (ad 10)), (1, .int x1), (2, .int x2), (3, .int x3)] [] S := by
  unfold f_X8_lets_e at hE
  refine j_iload_n C dX8_lets_0 1 rfl ?_
  refine j_iload_n C dX8_lets_1 2 rfl ?_
  refine j_isub C dX8_lets_2 ?_
  refine j_mabs C tm_574 tm_575 tm_87 tm_576 dX8_lets_3 (Nat.le_of_ble_eq_true rfl) (Nat.le_of_ble_eq_true rfl) ?_
  refine j_iload_n C dX8_lets_6 3 rfl ?_
  refine j_icmp_lt (tgt := 24) C dX8_lets_7 rfl hE (fun hE => ?_) (fun hE => ?_)
  · refine j_sub [] rfl ?_
    exact p_X8_lets_24 C Q   S hE
  · refine j_aload_n C dX8_lets_10 0 rfl ?_
    refine j_iload_n C dX8_lets_11 1 rfl ?_
    refine j_iload_n C dX8_lets_12 2 rfl ?_
    refine j_iload_n C dX8_lets_13 3 rfl ?_
    refine k_X8_13_X5_lets_r10 C dX8_lets_14 hE (Nat.le_of_ble_eq_true rfl) (Nat.le_of_ble_eq_true rfl) (Nat.le_of_ble_eq_true rfl) (fun v2 S1 hE => ?_)
    refine j_if_eq (tgt := 24) C dX8_lets_17 rfl hE (fun hE => ?_) (fun hE => ?_)
    · refine j_sub [] rfl ?_
      exact p_X8_lets_24 C Q   S1 hE
    · refine j_iconst (v := 1) C dX8_lets_20 jc_ic_1 ?_
      refine j_goto (tgt := 25) C dX8_lets_21 rfl ?_
      refine j_sub [] rfl ?_
      exact p_X8_lets_25 C Q  1 S1 hE
theorem c_X8_lets {l : Launch} {D : va_G} {ad : Nat → Nat} {cy : Nat → ClassId} (hO : jOk (jMain D ad cy)) (x1 : Int32) (x2 : Int32) (x3 : Int32) (S : jS) {z : Int32 × jS} (hz : f_X8_lets x1 x2 x3 S = some z) : Met l yX8_lets (.code yX8_lets cX8_lets 4 (some .boolean) :: jT) { frames := 1, cells := 0, slots := 0, locals := 25 } (va_Pc [.ref (ad 10), .int x1, .int x2, .int x3] (jInv (jMain D ad cy) S)) (jQ (jMain D ad cy) (some (.int z.1), z.2)) 0 0 (yA (jMain D ad cy)) :=
  jMet hO (by decide +kernel) rfl (Nat.le_of_ble_eq_true rfl) (fun X _ C Q => p_X8_lets_e C Q x1 x2 x3 S hz)
theorem k_X2_35_X8_lets {X : jX} {D : va_G} {ad : Nat → Nat} {cy : Nat → ClassId} {cc : ByteArray} {ret : Option FieldType} {nL fr lo pc : Nat} {lv : List (Nat × Value)} {st : List Value} {S : jS} {β : Type} {z : β} (C : jC X (jMain D ad cy) RX2 cc ret nL fr lo) {a0 : Int32} {a1 : Int32} {a2 : Int32} {E : Int32 → jS → Option β} (d : decode cc pc = .ok (.invokevirtual 35, 3)) (hE : jcl (f_X8_lets a0 a1 a2 S) E = some z) (hfr : 2 ≤ fr) (hlo : 48 ≤ lo) (hst : (st.map fun v => v.category).sum ≤ 8) (K : ∀ (v : Int32) (S1 : jS), E v S1 = some z → jJ X (jMain D ad cy) (pc + 3) lv (.int v :: st) S1) : jJ X (jMain D ad cy) pc lv (.int a2 :: .int a1 :: .int a0 :: .ref (ad 10) :: st) S := by
  obtain ⟨v, h1, h2⟩ := jcl_some hE
  exact j_callO (x := yX5_lets) (owner := "OddFridays$Plain") (k := 10) (ci := 8) (T := TX8) (N := 1) (n := 3) (As := [.int a0, .int a1, .int a2]) C (c_X8_lets C.2.2.2.2.2.2.1 a0 a1 a2 S h1) tw_547 tw_550 tw_548 tw_571 tw_572 tw_76 tw_573 tw_583 (by decide +kernel) rfl (by decide : 10 < 56) rfl rfl hfr hlo hst rfl d (K _ _ h2)
set_option maxRecDepth 100000 in
theorem p_X5_lets_r11_50 {X : jX} {D : va_G} {ad : Nat → Nat} {cy : Nat → ClassId} (C : jC X (jMain D ad cy) RX5 cX5_lets (some .boolean) 6 0 0) {z : Int32 × jS} (Q : jRet X (jMain D ad cy) (some (.int z.1), z.2))  (a0 : Int32) (S : jS) (hE : f_X5_lets_r11_50   a0 S = some z) : jJ X (jMain D ad cy) 50 [] [.int a0] S := by
  unfold f_X5_lets_r11_50 at hE
  exact j_zret C Q dX5_lets_50 hE
set_option maxRecDepth 100000 in
theorem p_X5_lets_r11_45 {X : jX} {D : va_G} {ad : Nat → Nat} {cy : Nat → ClassId} (C : jC X (jMain D ad cy) RX5 cX5_lets (some .boolean) 6 0 0) {z : Int32 × jS} (Q : jRet X (jMain D ad cy) (some (.int z.1), z.2))   (S : jS) (hE : f_X5_lets_r11_45    S = some z) : jJ X (jMain D ad cy) 45 [] [] S := by
  unfold f_X5_lets_r11_45 at hE
  refine j_iconst (v := 1) C dX5_lets_45 jc_ic_1 ?_
  refine j_goto (tgt := 50) C dX5_lets_46 rfl ?_
  exact p_X5_lets_r11_50 C Q  1 S hE
set_option maxRecDepth 100000 in
theorem p_X5_lets_r11_22 {X : jX} {D : va_G} {ad : Nat → Nat} {cy : Nat → ClassId} (C : jC X (jMain D ad cy) RX5 cX5_lets (some .boolean) 6 0 0) {z : Int32 × jS} (Q : jRet X (jMain D ad cy) (some (.int z.1), z.2))  (a0 : Int32) (x4 : Int32) (S : jS) (hE : f_X5_lets_r11_22   a0 x4 S = some z) : jJ X (jMain D ad cy) 22 [(4, .int x4)] [.int a0] S := by
  unfold f_X5_lets_r11_22 at hE
  refine j_istore (lv' := [(5, .int a0), (4, .int x4)]) C dX5_lets_22 (by decide) rfl ?_
  refine j_iload C dX5_lets_24 1 rfl ?_
  refine j_iload C dX5_lets_26 0 rfl ?_
  refine j_icmp_eq (tgt := 45) C dX5_lets_28 rfl hE (fun hE => ?_) (fun hE => ?_)
  · refine j_sub [] rfl ?_
    exact p_X5_lets_r11_45 C Q   S hE
  · refine j_iload C dX5_lets_31 1 rfl ?_
    refine j_iconst (v := 1) C dX5_lets_33 jc_ic_1 ?_
    refine j_icmp_lt (tgt := 45) C dX5_lets_34 rfl hE (fun hE => ?_) (fun hE => ?_)
    · refine j_sub [] rfl ?_
      exact p_X5_lets_r11_45 C Q   S hE
    · refine j_iload C dX5_lets_37 0 rfl ?_
      refine j_iload C dX5_lets_39 1 rfl ?_
      refine j_irem C dX5_lets_41 hE (fun v1 hE => ?_)
      refine j_if_eq (tgt := 49) C dX5_lets_42 rfl hE (fun hE => ?_) (fun hE => ?_)
      · refine j_iconst (v := 0) C dX5_lets_49 jc_ic_0 ?_
        refine j_sub [] rfl ?_
        exact p_X5_lets_r11_50 C Q  0 S hE
      · refine j_sub [] rfl ?_
        exact p_X5_lets_r11_45 C Q   S hE
set_option maxRecDepth 100000 in
theorem p_X5_lets_r11_10 {X : jX} {D : va_G} {ad : Nat → Nat} {cy : Nat → ClassId} (C : jC X (jMain D ad cy) RX5 cX5_lets (some .boolean) 6 0 0) {z : Int32 × jS} (Q : jRet X (jMain D ad cy) (some (.int z.1), z.2))  (a0 : Int32) (x1 : Int32) (x2 : Int32) (S : jS) (hE : f_X5_lets_r11_10   a0 x1 x2 S = some z) : jJ X (jMain D ad cy) 10 [(1, .int x1), (2, .int x2)] [.int a0] S := by
  unfold f_X5_lets_r11_10 at hE
  refine j_istore (lv' := [(4, .int a0), (1, .int x1), (2, .int x2)]) C dX5_lets_10 (by decide) rfl ?_
  refine j_iload_n C dX5_lets_12 1 rfl ?_
  refine j_iload_n C dX5_lets_13 2 rfl ?_
  refine j_icmp_ge (tgt := 21) C dX5_lets_14 rfl hE (fun hE => ?_) (fun hE => ?_)
  · refine j_iload_n C dX5_lets_21 1 rfl ?_
    refine j_sub [0] rfl ?_
    exact p_X5_lets_r11_22 C Q  x1 a0 S hE
  · refine j_iload_n C dX5_lets_17 2 rfl ?_
    refine j_goto (tgt := 22) C dX5_lets_18 rfl ?_
    refine j_sub [0] rfl ?_
    exact p_X5_lets_r11_22 C Q  x2 a0 S hE
set_option maxRecDepth 100000 in
theorem p_X5_lets_r11_e {X : jX} {D : va_G} {ad : Nat → Nat} {cy : Nat → ClassId} (C : jC X (jMain D ad cy) RX5 cX5_lets (some .boolean) 6 0 0) {z : Int32 × jS} (Q : jRet X (jMain D ad cy) (some (.int z.1), z.2))  (x1 : Int32) (x2 : Int32) (x3 : Int32) (S : jS) (hE : f_X5_lets_r11_e   x1 x2 x3 S = some z) : jJ X (jMain D ad cy) 0 [(0, .ref (ad 11)), (1, .int x1), (2, .int x2), (3, .int x3)] [] S := by
  unfold f_X5_lets_r11_e at hE
  refine j_iload_n C dX5_lets_0 1 rfl ?_
  refine j_iload_n C dX5_lets_1 2 rfl ?_
  refine j_icmp_ge (tgt := 9) C dX5_lets_2 rfl hE (fun hE => ?_) (fun hE => ?_)
  · refine j_iload_n C dX5_lets_9 2 rfl ?_
    refine j_sub [1, 2] rfl ?_
    exact p_X5_lets_r11_10 C Q  x2 x1 x2 S hE
  · refine j_iload_n C dX5_lets_5 1 rfl ?_
    refine j_goto (tgt := 10) C dX5_lets_6 rfl ?_
    refine j_sub [1, 2] rfl ?_
    exact p_X5_lets_r11_10 C Q  x1 x1 x2 S hE
theorem c_X5_lets_r11 {l : Launch} {D : va_G} {ad : Nat → Nat} {cy : Nat → ClassId} (hO : jOk (jMain D ad cy)) (x1 : Int32) (x2 : Int32) (x3 : Int32) (S : jS) {z : Int32 × jS} (hz : f_X5_lets_r11 x1 x2 x3 S = some z) : Met l yX5_lets (.code yX5_lets cX5_lets 6 (some .boolean) :: jT) { frames := 0, cells := 0, slots := 0, locals := 0 } (va_Pc [.ref (ad 11), .int x1, .int x2, .int x3] (jInv (jMain D ad cy) S)) (jQ (jMain D ad cy) (some (.int z.1), z.2)) 0 0 (yA (jMain D ad cy)) :=
  jMet hO (by decide +kernel) rfl (Nat.le_of_ble_eq_true rfl) (fun X _ C Q => p_X5_lets_r11_e C Q x1 x2 x3 S hz)
theorem k_X6_19_X5_lets_r11 {X : jX} {D : va_G} {ad : Nat → Nat} {cy : Nat → ClassId} {cc : ByteArray} {ret : Option FieldType} {nL fr lo pc : Nat} {lv : List (Nat × Value)} {st : List Value} {S : jS} {β : Type} {z : β} (C : jC X (jMain D ad cy) RX6 cc ret nL fr lo) {a0 : Int32} {a1 : Int32} {a2 : Int32} {E : Int32 → jS → Option β} (d : decode cc pc = .ok (.invokespecial 19, 3)) (hE : jcl (f_X5_lets_r11 a0 a1 a2 S) E = some z) (hfr : 1 ≤ fr) (hlo : 25 ≤ lo) (hst : (st.map fun v => v.category).sum ≤ 8) (K : ∀ (v : Int32) (S1 : jS), E v S1 = some z → jJ X (jMain D ad cy) (pc + 3) lv (.int v :: st) S1) : jJ X (jMain D ad cy) pc lv (.int a2 :: .int a1 :: .int a0 :: .ref (ad 11) :: st) S := by
  obtain ⟨v, h1, h2⟩ := jcl_some hE
  exact j_callSU (k := 11) (ci := 1) (T := TX1) (N := 1) (n := 3) (As := [.int a0, .int a1, .int a2]) C (c_X5_lets_r11 C.2.2.2.2.2.2.1 a0 a1 a2 S h1) tw_562 tw_550 tw_150 tw_548 tw_72 tw_583 (by decide +kernel) rfl (by decide : 11 < 56) rfl rfl hfr hlo hst rfl d (K _ _ h2)
set_option maxRecDepth 100000 in
theorem p_X6_lets_r11_37 {X : jX} {D : va_G} {ad : Nat → Nat} {cy : Nat → ClassId} (C : jC X (jMain D ad cy) RX6 cX6_lets (some .boolean) 4 1 25) {z : Int32 × jS} (Q : jRet X (jMain D ad cy) (some (.int z.1), z.2))  (a0 : Int32) (S : jS) (hE : f_X6_lets_r11_37   a0 S = some z) : jJ X (jMain D ad cy) 37 [] [.int a0] S := by
  unfold f_X6_lets_r11_37 at hE
  exact j_zret C Q dX6_lets_37 hE
set_option maxRecDepth 100000 in
theorem p_X6_lets_r11_36 {X : jX} {D : va_G} {ad : Nat → Nat} {cy : Nat → ClassId} (C : jC X (jMain D ad cy) RX6 cX6_lets (some .boolean) 4 1 25) {z : Int32 × jS} (Q : jRet X (jMain D ad cy) (some (.int z.1), z.2))   (S : jS) (hE : f_X6_lets_r11_36    S = some z) : jJ X (jMain D ad cy) 36 [] [] S := by
  unfold f_X6_lets_r11_36 at hE
  refine j_iconst (v := 0) C dX6_lets_36 jc_ic_0 ?_
  exact p_X6_lets_r11_37 C Q  0 S hE
set_option maxRecDepth 100000 in
theorem p_X6_lets_r11_e {X : jX} {D : va_G} {ad : Nat → Nat} {cy : Nat → ClassId} (C : jC X (jMain D ad cy) RX6 cX6_lets (some .boolean) 4 1 25) {z : Int32 × jS} (Q : jRet X (jMain D ad cy) (some (.int z.1), z.2))  (x1 : Int32) (x2 : Int32) (x3 : Int32) (S : jS) (hE : f_X6_lets_r11_e   x1 x2 x3 S = some z) : jJ X (jMain D ad cy) 0 [(0, .ref (ad 11)), (1, .int x1), (2, .int x2), (3, .int x3)] [] S := by
  unfold f_X6_lets_r11_e at hE
  refine j_aload_n C dX6_lets_0 0 rfl ?_
  refine g_X6_7_11 C dX6_lets_1 ?_
  refine j_iload_n C dX6_lets_4 1 rfl ?_
  refine k_X6_13_X3_isPrime C dX6_lets_5 hE (Nat.le_of_ble_eq_true rfl) (Nat.le_of_ble_eq_true rfl) (Nat.le_of_ble_eq_true rfl) (fun v2 S1 hE => ?_)
  refine j_if_ne (tgt := 36) C dX6_lets_8 rfl hE (fun hE => ?_) (fun hE => ?_)
  · refine j_sub [] rfl ?_
    exact p_X6_lets_r11_36 C Q   S1 hE
  · refine j_aload_n C dX6_lets_11 0 rfl ?_
    refine g_X6_7_11 C dX6_lets_12 ?_
    refine j_iload_n C dX6_lets_15 2 rfl ?_
    refine k_X6_13_X3_isPrime C dX6_lets_16 hE (Nat.le_of_ble_eq_true rfl) (Nat.le_of_ble_eq_true rfl) (Nat.le_of_ble_eq_true rfl) (fun v4 S3 hE => ?_)
    refine j_if_ne (tgt := 36) C dX6_lets_19 rfl hE (fun hE => ?_) (fun hE => ?_)
    · refine j_sub [] rfl ?_
      exact p_X6_lets_r11_36 C Q   S3 hE
    · refine j_aload_n C dX6_lets_22 0 rfl ?_
      refine j_iload_n C dX6_lets_23 1 rfl ?_
      refine j_iload_n C dX6_lets_24 2 rfl ?_
      refine j_iload_n C dX6_lets_25 3 rfl ?_
      refine k_X6_19_X5_lets_r11 C dX6_lets_26 hE (Nat.le_of_ble_eq_true rfl) (Nat.le_of_ble_eq_true rfl) (Nat.le_of_ble_eq_true rfl) (fun v6 S5 hE => ?_)
      refine j_if_eq (tgt := 36) C dX6_lets_29 rfl hE (fun hE => ?_) (fun hE => ?_)
      · refine j_sub [] rfl ?_
        exact p_X6_lets_r11_36 C Q   S5 hE
      · refine j_iconst (v := 1) C dX6_lets_32 jc_ic_1 ?_
        refine j_goto (tgt := 37) C dX6_lets_33 rfl ?_
        refine j_sub [] rfl ?_
        exact p_X6_lets_r11_37 C Q  1 S5 hE
theorem c_X6_lets_r11 {l : Launch} {D : va_G} {ad : Nat → Nat} {cy : Nat → ClassId} (hO : jOk (jMain D ad cy)) (x1 : Int32) (x2 : Int32) (x3 : Int32) (S : jS) {z : Int32 × jS} (hz : f_X6_lets_r11 x1 x2 x3 S = some z) : Met l yX6_lets (.code yX6_lets cX6_lets 4 (some .boolean) :: jT) { frames := 1, cells := 0, slots := 0, locals := 25 } (va_Pc [.ref (ad 11), .int x1, .int x2, .int x3] (jInv (jMain D ad cy) S)) (jQ (jMain D ad cy) (some (.int z.1), z.2)) 0 0 (yA (jMain D ad cy)) :=
  jMet hO (by decide +kernel) rfl (Nat.le_of_ble_eq_true rfl) (fun X _ C Q => p_X6_lets_r11_e C Q x1 x2 x3 S hz)
theorem k_X1_7_X6_lets_r11 {X : jX} {D : va_G} {ad : Nat → Nat} {cy : Nat → ClassId} {cc : ByteArray} {ret : Option FieldType} {nL fr lo pc : Nat} {lv : List (Nat × Value)} {st : List Value} {S : jS} {β : Type} {z : β} (C : jC X (jMain D ad cy) RX1 cc ret nL fr lo) {a0 : Int32} {a1 : Int32} {a2 : Int32} {E : Int32 → jS → Option β} (d : decode cc pc = .ok (.invokespecial 7, 3)) (hE : jcl (f_X6_lets_r11 a0 a1 a2 S) E = some z) (hfr : 2 ≤ fr) (hlo : 48 ≤ lo) (hst : (st.map fun v => v.category).sum ≤ 8) (K : ∀ (v : Int32) (S1 : jS), E v S1 = some z → jJ X (jMain D ad cy) (pc + 3) lv (.int v :: st) S1) : jJ X (jMain D ad cy) pc lv (.int a2 :: .int a1 :: .int a0 :: .ref (ad 11) :: st) S := by
  obtain ⟨v, h1, h2⟩ := jcl_some hE
  exact j_callSU (k := 11) (ci := 1) (T := TX1) (N := 1) (n := 3) (As := [.int a0, .int a1, .int a2]) C (c_X6_lets_r11 C.2.2.2.2.2.2.1 a0 a1 a2 S h1) tw_558 tw_1291 tw_174 tw_559 tw_74 tw_560 (by decide +kernel) rfl (by decide : 11 < 56) rfl rfl hfr hlo hst rfl d (K _ _ h2)
set_option maxRecDepth 100000 in
theorem p_X11_isNumber_17 {X : jX} {D : va_G} {ad : Nat → Nat} {cy : Nat → ClassId} (C : jC X (jMain D ad cy) RX11 cX11_isNumber (some .boolean) 1 0 0) {z : Int32 × jS} (Q : jRet X (jMain D ad cy) (some (.int z.1), z.2))  (a0 : Int32) (S : jS) (hE : f_X11_isNumber_17   a0 S = some z) : jJ X (jMain D ad cy) 17 [] [.int a0] S := by
  unfold f_X11_isNumber_17 at hE
  exact j_zret C Q dX11_isNumber_17 hE
set_option maxRecDepth 100000 in
theorem p_X11_isNumber_16 {X : jX} {D : va_G} {ad : Nat → Nat} {cy : Nat → ClassId} (C : jC X (jMain D ad cy) RX11 cX11_isNumber (some .boolean) 1 0 0) {z : Int32 × jS} (Q : jRet X (jMain D ad cy) (some (.int z.1), z.2))   (S : jS) (hE : f_X11_isNumber_16    S = some z) : jJ X (jMain D ad cy) 16 [] [] S := by
  unfold f_X11_isNumber_16 at hE
  refine j_iconst (v := 0) C dX11_isNumber_16 jc_ic_0 ?_
  exact p_X11_isNumber_17 C Q  0 S hE
set_option maxRecDepth 100000 in
theorem p_X11_isNumber_e {X : jX} {D : va_G} {ad : Nat → Nat} {cy : Nat → ClassId} (C : jC X (jMain D ad cy) RX11 cX11_isNumber (some .boolean) 1 0 0) {z : Int32 × jS} (Q : jRet X (jMain D ad cy) (some (.int z.1), z.2))  (x0 : Int32) (S : jS) (hE : f_X11_isNumber_e   x0 S = some z) : jJ X (jMain D ad cy) 0 [(0, .int x0)] [] S := by
  unfold f_X11_isNumber_e at hE
  refine j_iload_n C dX11_isNumber_0 0 rfl ?_
  refine j_iconst (v := 1) C dX11_isNumber_1 jc_ic_1 ?_
  refine j_icmp_lt (tgt := 16) C dX11_isNumber_2 rfl hE (fun hE => ?_) (fun hE => ?_)
  · refine j_sub [] rfl ?_
    exact p_X11_isNumber_16 C Q   S hE
  · refine j_iload_n C dX11_isNumber_5 0 rfl ?_
    refine j_sipush (v := 300) C dX11_isNumber_6 jc_sp_300 ?_
    refine j_icmp_gt (tgt := 16) C dX11_isNumber_9 rfl hE (fun hE => ?_) (fun hE => ?_)
    · refine j_sub [] rfl ?_
      exact p_X11_isNumber_16 C Q   S hE
    · refine j_iconst (v := 1) C dX11_isNumber_12 jc_ic_1 ?_
      refine j_goto (tgt := 17) C dX11_isNumber_13 rfl ?_
      refine j_sub [] rfl ?_
      exact p_X11_isNumber_17 C Q  1 S hE
theorem c_X11_isNumber {l : Launch} {D : va_G} {ad : Nat → Nat} {cy : Nat → ClassId} (hO : jOk (jMain D ad cy)) (x0 : Int32) (S : jS) {z : Int32 × jS} (hz : f_X11_isNumber x0 S = some z) : Met l yX11_isNumber (.code yX11_isNumber cX11_isNumber 1 (some .boolean) :: jT) { frames := 0, cells := 0, slots := 0, locals := 0 } (va_Pc [.int x0] (jInv (jMain D ad cy) S)) (jQ (jMain D ad cy) (some (.int z.1), z.2)) 0 0 (yA (jMain D ad cy)) :=
  jMet hO (by decide +kernel) rfl (Nat.le_of_ble_eq_true rfl) (fun X _ C Q => p_X11_isNumber_e C Q x0 S hz)
theorem k_X3_23_X11_isNumber {X : jX} {D : va_G} {ad : Nat → Nat} {cy : Nat → ClassId} {cc : ByteArray} {ret : Option FieldType} {nL fr lo pc : Nat} {lv : List (Nat × Value)} {st : List Value} {S : jS} {β : Type} {z : β} (C : jC X (jMain D ad cy) RX3 cc ret nL fr lo) {a0 : Int32} {E : Int32 → jS → Option β} (d : decode cc pc = .ok (.invokestatic 23, 3)) (hE : jcl (f_X11_isNumber a0 S) E = some z) (hfr : 1 ≤ fr) (hlo : 20 ≤ lo) (hst : (st.map fun v => v.category).sum ≤ 8) (K : ∀ (v : Int32) (S1 : jS), E v S1 = some z → jJ X (jMain D ad cy) (pc + 3) lv (.int v :: st) S1) : jJ X (jMain D ad cy) pc lv (.int a0 :: st) S := by
  obtain ⟨v, h1, h2⟩ := jcl_some hE
  exact j_callSN (n := 1) (As := [.int a0]) C (c_X11_isNumber C.2.2.2.2.2.2.1 a0 S h1) C.2.2.2.2.2.2.2.2.2.2.2.2.2.2.1 tw_568 tw_69 tw_569 (by decide +kernel) rfl hfr hlo hst rfl d (K _ _ h2)
theorem k_X11_153_X11_isNumber {X : jX} {D : va_G} {ad : Nat → Nat} {cy : Nat → ClassId} {cc : ByteArray} {ret : Option FieldType} {nL fr lo pc : Nat} {lv : List (Nat × Value)} {st : List Value} {S : jS} {β : Type} {z : β} (C : jC X (jMain D ad cy) RX11 cc ret nL fr lo) {a0 : Int32} {E : Int32 → jS → Option β} (d : decode cc pc = .ok (.invokestatic 153, 3)) (hE : jcl (f_X11_isNumber a0 S) E = some z) (hfr : 1 ≤ fr) (hlo : 20 ≤ lo) (hst : (st.map fun v => v.category).sum ≤ 8) (K : ∀ (v : Int32) (S1 : jS), E v S1 = some z → jJ X (jMain D ad cy) (pc + 3) lv (.int v :: st) S1) : jJ X (jMain D ad cy) pc lv (.int a0 :: st) S := by
  obtain ⟨v, h1, h2⟩ := jcl_some hE
  exact j_callS (n := 1) (As := [.int a0]) C (c_X11_isNumber C.2.2.2.2.2.2.1 a0 S h1) tw_591 tw_568 tw_69 tw_569 (by decide +kernel) rfl hfr hlo hst rfl d (K _ _ h2)
set_option maxRecDepth 100000 in
theorem p_X3_areFriends_39 {X : jX} {D : va_G} {ad : Nat → Nat} {cy : Nat → ClassId} (C : jC X (jMain D ad cy) RX3 cX3_areFriends (some .boolean) 3 1 20) {z : Int32 × jS} (Q : jRet X (jMain D ad cy) (some (.int z.1), z.2))  (a0 : Int32) (S : jS) (hE : f_X3_areFriends_39   a0 S = some z) : jJ X (jMain D ad cy) 39 [] [.int a0] S := by
  unfold f_X3_areFriends_39 at hE
  exact j_zret C Q dX3_areFriends_39 hE
set_option maxRecDepth 100000 in
theorem p_X3_areFriends_38 {X : jX} {D : va_G} {ad : Nat → Nat} {cy : Nat → ClassId} (C : jC X (jMain D ad cy) RX3 cX3_areFriends (some .boolean) 3 1 20) {z : Int32 × jS} (Q : jRet X (jMain D ad cy) (some (.int z.1), z.2))   (S : jS) (hE : f_X3_areFriends_38    S = some z) : jJ X (jMain D ad cy) 38 [] [] S := by
  unfold f_X3_areFriends_38 at hE
  refine j_iconst (v := 0) C dX3_areFriends_38 jc_ic_0 ?_
  exact p_X3_areFriends_39 C Q  0 S hE
set_option maxRecDepth 100000 in
theorem p_X3_areFriends_e {X : jX} {D : va_G} {ad : Nat → Nat} {cy : Nat → ClassId} (C : jC X (jMain D ad cy) RX3 cX3_areFriends (some .boolean) 3 1 20) {z : Int32 × jS} (Q : jRet X (jMain D ad cy) (some (.int z.1), z.2))  (x1 : Int32) (x2 : Int32) (S : jS) (hE : f_X3_areFriends_e   x1 x2 S = some z) : jJ X (jMain D ad cy) 0 [(0, .ref (ad 1)), (1, .int x1), (2, .int x2)] [] S := by
  unfold f_X3_areFriends_e at hE
  refine j_iload_n C dX3_areFriends_0 1 rfl ?_
  refine k_X3_23_X11_isNumber C dX3_areFriends_1 hE (Nat.le_of_ble_eq_true rfl) (Nat.le_of_ble_eq_true rfl) (Nat.le_of_ble_eq_true rfl) (fun v2 S1 hE => ?_)
  refine j_if_eq (tgt := 38) C dX3_areFriends_4 rfl hE (fun hE => ?_) (fun hE => ?_)
  · refine j_sub [] rfl ?_
    exact p_X3_areFriends_38 C Q   S1 hE
  · refine j_iload_n C dX3_areFriends_7 2 rfl ?_
    refine k_X3_23_X11_isNumber C dX3_areFriends_8 hE (Nat.le_of_ble_eq_true rfl) (Nat.le_of_ble_eq_true rfl) (Nat.le_of_ble_eq_true rfl) (fun v4 S3 hE => ?_)
    refine j_if_eq (tgt := 38) C dX3_areFriends_11 rfl hE (fun hE => ?_) (fun hE => ?_)
    · refine j_sub [] rfl ?_
      exact p_X3_areFriends_38 C Q   S3 hE
    · refine j_aload_n C dX3_areFriends_14 0 rfl ?_
      refine g_X3_9_1 C dX3_areFriends_15 ?_
      refine j_iload_n C dX3_areFriends_18 1 rfl ?_
      refine l_2 C dX3_areFriends_19 hE (fun v5 hE => ?_)
      refine j_iload_n C dX3_areFriends_20 2 rfl ?_
      refine j_icmp_ne (tgt := 38) C dX3_areFriends_21 rfl hE (fun hE => ?_) (fun hE => ?_)
      · refine j_sub [] rfl ?_
        exact p_X3_areFriends_38 C Q   S3 hE
      · refine j_aload_n C dX3_areFriends_24 0 rfl ?_
        refine g_X3_9_1 C dX3_areFriends_25 ?_
        refine j_iload_n C dX3_areFriends_28 2 rfl ?_
        refine l_2 C dX3_areFriends_29 hE (fun v6 hE => ?_)
        refine j_iload_n C dX3_areFriends_30 1 rfl ?_
        refine j_icmp_ne (tgt := 38) C dX3_areFriends_31 rfl hE (fun hE => ?_) (fun hE => ?_)
        · refine j_sub [] rfl ?_
          exact p_X3_areFriends_38 C Q   S3 hE
        · refine j_iconst (v := 1) C dX3_areFriends_34 jc_ic_1 ?_
          refine j_goto (tgt := 39) C dX3_areFriends_35 rfl ?_
          refine j_sub [] rfl ?_
          exact p_X3_areFriends_39 C Q  1 S3 hE
theorem c_X3_areFriends {l : Launch} {D : va_G} {ad : Nat → Nat} {cy : Nat → ClassId} (hO : jOk (jMain D ad cy)) (x1 : Int32) (x2 : Int32) (S : jS) {z : Int32 × jS} (hz : f_X3_areFriends x1 x2 S = some z) : Met l yX3_areFriends (.code yX3_areFriends cX3_areFriends 3 (some .boolean) :: jT) { frames := 1, cells := 0, slots := 0, locals := 20 } (va_Pc [.ref (ad 1), .int x1, .int x2] (jInv (jMain D ad cy) S)) (jQ (jMain D ad cy) (some (.int z.1), z.2)) 0 0 (yA (jMain D ad cy)) :=
  jMet hO (by decide +kernel) rfl (Nat.le_of_ble_eq_true rfl) (fun X _ C Q => p_X3_areFriends_e C Q x1 x2 S hz)
theorem k_X1_17_X3_areFriends {X : jX} {D : va_G} {ad : Nat → Nat} {cy : Nat → ClassId} {cc : ByteArray} {ret : Option FieldType} {nL fr lo pc : Nat} {lv : List (Nat × Value)} {st : List Value} {S : jS} {β : Type} {z : β} (C : jC X (jMain D ad cy) RX1 cc ret nL fr lo) {a0 : Int32} {a1 : Int32} {E : Int32 → jS → Option β} (d : decode cc pc = .ok (.invokevirtual 17, 3)) (hE : jcl (f_X3_areFriends a0 a1 S) E = some z) (hfr : 2 ≤ fr) (hlo : 42 ≤ lo) (hst : (st.map fun v => v.category).sum ≤ 8) (K : ∀ (v : Int32) (S1 : jS), E v S1 = some z → jJ X (jMain D ad cy) (pc + 3) lv (.int v :: st) S1) : jJ X (jMain D ad cy) pc lv (.int a1 :: .int a0 :: .ref (ad 1) :: st) S := by
  obtain ⟨v, h1, h2⟩ := jcl_some hE
  exact j_callV (k := 1) (ci := 3) (T := TX3) (N := 2) (n := 2) (As := [.int a0, .int a1]) C (c_X3_areFriends C.2.2.2.2.2.2.1 a0 a1 S h1) tw_563 tw_564 tw_565 tw_70 tw_566 (by decide +kernel) rfl (by decide : 1 < 56) rfl rfl hfr hlo hst rfl d (K _ _ h2)
set_option maxRecDepth 100000 in
theorem p_X1_lets_27 {X : jX} {D : va_G} {ad : Nat → Nat} {cy : Nat → ClassId} (C : jC X (jMain D ad cy) RX1 cX1_lets (some .boolean) 4 2 48) {z : Int32 × jS} (Q : jRet X (jMain D ad cy) (some (.int z.1), z.2))  (a0 : Int32) (S : jS) (hE : f_X1_lets_27   a0 S = some z) : jJ X (jMain D ad cy) 27 [] [.int a0] S := by
  unfold f_X1_lets_27 at hE
  exact j_zret C Q dX1_lets_27 hE
set_option maxRecDepth 100000 in
theorem p_X1_lets_22 {X : jX} {D : va_G} {ad : Nat → Nat} {cy : Nat → ClassId} (C : jC X (jMain D ad cy) RX1 cX1_lets (some .boolean) 4 2 48) {z : Int32 × jS} (Q : jRet X (jMain D ad cy) (some (.int z.1), z.2))   (S : jS) (hE : f_X1_lets_22    S = some z) : jJ X (jMain D ad cy) 22 [] [] S := by
  unfold f_X1_lets_22 at hE
  refine j_iconst (v := 1) C dX1_lets_22 jc_ic_1 ?_
  refine j_goto (tgt := 27) C dX1_lets_23 rfl ?_
  exact p_X1_lets_27 C Q  1 S hE
set_option maxRecDepth 100000 in
theorem p_X1_lets_e {X : jX} {D : va_G} {ad : Nat → Nat} {cy : Nat → ClassId} (C : jC X (jMain D ad cy) RX1 cX1_lets (some .boolean) 4 2 48) {z : Int32 × jS} (Q : jRet X (jMain D ad cy) (some (.int z.1), z.2))  (x1 : Int32) (x2 : Int32) (x3 : Int32) (S : jS) (hE : f_X1_lets_e   x1 x2 x3 S = some z) : jJ X (jMain D ad cy) 0 [(0, .ref (ad 11)), (1, .int x1), (2, .int x2), (3, .int x3)] [] S := by
  unfold f_X1_lets_e at hE
  refine j_aload_n C dX1_lets_0 0 rfl ?_
  refine j_iload_n C dX1_lets_1 1 rfl ?_
  refine j_iload_n C dX1_lets_2 2 rfl ?_
  refine j_iload_n C dX1_lets_3 3 rfl ?_
  refine k_X1_7_X6_lets_r11 C dX1_lets_4 hE (Nat.le_of_ble_eq_true rfl) (Nat.le_of_ble_eq_true rfl) (Nat.le_of_ble_eq_true rfl) (fun v2 S1 hE => ?_)
  refine j_if_ne (tgt := 22) C dX1_lets_7 rfl hE (fun hE => ?_) (fun hE => ?_)
  · refine j_sub [] rfl ?_
    exact p_X1_lets_22 C Q   S1 hE
  · refine j_aload_n C dX1_lets_10 0 rfl ?_
    refine g_X1_11_11 C dX1_lets_11 ?_
    refine j_iload_n C dX1_lets_14 1 rfl ?_
    refine j_iload_n C dX1_lets_15 2 rfl ?_
    refine k_X1_17_X3_areFriends C dX1_lets_16 hE (Nat.le_of_ble_eq_true rfl) (Nat.le_of_ble_eq_true rfl) (Nat.le_of_ble_eq_true rfl) (fun v4 S3 hE => ?_)
    refine j_if_eq (tgt := 26) C dX1_lets_19 rfl hE (fun hE => ?_) (fun hE => ?_)
    · refine j_iconst (v := 0) C dX1_lets_26 jc_ic_0 ?_
      refine j_sub [] rfl ?_
      exact p_X1_lets_27 C Q  0 S3 hE
    · refine j_sub [] rfl ?_
      exact p_X1_lets_22 C Q   S3 hE
theorem c_X1_lets {l : Launch} {D : va_G} {ad : Nat → Nat} {cy : Nat → ClassId} (hO : jOk (jMain D ad cy)) (x1 : Int32) (x2 : Int32) (x3 : Int32) (S : jS) {z : Int32 × jS} (hz : f_X1_lets x1 x2 x3 S = some z) : Met l yX1_lets (.code yX1_lets cX1_lets 4 (some .boolean) :: jT) { frames := 2, cells := 0, slots := 0, locals := 48 } (va_Pc [.ref (ad 11), .int x1, .int x2, .int x3] (jInv (jMain D ad cy) S)) (jQ (jMain D ad cy) (some (.int z.1), z.2)) 0 0 (yA (jMain D ad cy)) :=
  jMet hO (by decide +kernel) rfl (Nat.le_of_ble_eq_true rfl) (fun X _ C Q => p_X1_lets_e C Q x1 x2 x3 S hz)
theorem k_X2_35_X1_lets {X : jX} {D : va_G} {ad : Nat → Nat} {cy : Nat → ClassId} {cc : ByteArray} {ret : Option FieldType} {nL fr lo pc : Nat} {lv : List (Nat × Value)} {st : List Value} {S : jS} {β : Type} {z : β} (C : jC X (jMain D ad cy) RX2 cc ret nL fr lo) {a0 : Int32} {a1 : Int32} {a2 : Int32} {E : Int32 → jS → Option β} (d : decode cc pc = .ok (.invokevirtual 35, 3)) (hE : jcl (f_X1_lets a0 a1 a2 S) E = some z) (hfr : 3 ≤ fr) (hlo : 71 ≤ lo) (hst : (st.map fun v => v.category).sum ≤ 8) (K : ∀ (v : Int32) (S1 : jS), E v S1 = some z → jJ X (jMain D ad cy) (pc + 3) lv (.int v :: st) S1) : jJ X (jMain D ad cy) pc lv (.int a2 :: .int a1 :: .int a0 :: .ref (ad 11) :: st) S := by
  obtain ⟨v, h1, h2⟩ := jcl_some hE
  exact j_callO (x := yX5_lets) (owner := "OddFridays$Plain") (k := 11) (ci := 1) (T := TX1) (N := 1) (n := 3) (As := [.int a0, .int a1, .int a2]) C (c_X1_lets C.2.2.2.2.2.2.1 a0 a1 a2 S h1) tw_547 tw_550 tw_548 tw_555 tw_556 tw_77 tw_557 tw_583 (by decide +kernel) rfl (by decide : 11 < 56) rfl rfl hfr hlo hst rfl d (K _ _ h2)
set_option maxRecDepth 100000 in
theorem p_X2_allows_18 {X : jX} {D : va_G} {ad : Nat → Nat} {cy : Nat → ClassId} (C : jC X (jMain D ad cy) RX2 cX2_allows (some .boolean) 5 3 71) {z : Int32 × jS} (Q : jRet X (jMain D ad cy) (some (.int z.1), z.2))   (S : jS) (hE : f_X2_allows_18    S = some z) : jJ X (jMain D ad cy) 18 [] [] S := by
  unfold f_X2_allows_18 at hE
  refine j_iconst (v := 1) C dX2_allows_18 jc_ic_1 ?_
  exact j_zret C Q dX2_allows_19 hE
set_option maxRecDepth 100000 in
theorem p_X2_allows_55 {X : jX} {D : va_G} {ad : Nat → Nat} {cy : Nat → ClassId} (C : jC X (jMain D ad cy) RX2 cX2_allows (some .boolean) 5 3 71) {z : Int32 × jS} (Q : jRet X (jMain D ad cy) (some (.int z.1), z.2))  (a0 : Int32) (S : jS) (hE : f_X2_allows_55   a0 S = some z) : jJ X (jMain D ad cy) 55 [] [.int a0] S := by
  unfold f_X2_allows_55 at hE
  exact j_zret C Q dX2_allows_55 hE
set_option maxRecDepth 100000 in
theorem p_X2_allows_50 {X : jX} {D : va_G} {ad : Nat → Nat} {cy : Nat → ClassId} (C : jC X (jMain D ad cy) RX2 cX2_allows (some .boolean) 5 3 71) {z : Int32 × jS} (Q : jRet X (jMain D ad cy) (some (.int z.1), z.2))   (S : jS) (hE : f_X2_allows_50    S = some z) : jJ X (jMain D ad cy) 50 [] [] S := by
  unfold f_X2_allows_50 at hE
  refine j_iconst (v := 1) C dX2_allows_50 jc_ic_1 ?_
  refine j_goto (tgt := 55) C dX2_allows_51 rfl ?_
  exact p_X2_allows_55 C Q  1 S hE
set_option maxRecDepth 100000 in
theorem p_X2_allows_e {X : jX} {D : va_G} {ad : Nat → Nat} {cy : Nat → ClassId} (C : jC X (jMain D ad cy) RX2 cX2_allows (some .boolean) 5 3 71) {z : Int32 × jS} (Q : jRet X (jMain D ad cy) (some (.int z.1), z.2))  (x1 : Int32) (x2 : Int32) (x3 : Int32) (S : jS) (hE : f_X2_allows_e   x1 x2 x3 S = some z) : jJ X (jMain D ad cy) 0 [(0, .ref (ad 4)), (1, .int x1), (2, .int x2), (3, .int x3)] [] S := by
  unfold f_X2_allows_e at hE
  refine j_iload_n C dX2_allows_0 2 rfl ?_
  refine j_if_eq (tgt := 18) C dX2_allows_1 rfl hE (fun hE => ?_) (fun hE => ?_)
  · refine j_sub [] rfl ?_
    exact p_X2_allows_18 C Q   S hE
  · refine j_iload_n C dX2_allows_4 3 rfl ?_
    refine j_if_eq (tgt := 18) C dX2_allows_5 rfl hE (fun hE => ?_) (fun hE => ?_)
    · refine j_sub [] rfl ?_
      exact p_X2_allows_18 C Q   S hE
    · refine j_iload_n C dX2_allows_8 1 rfl ?_
      refine j_if_lt (tgt := 18) C dX2_allows_9 rfl hE (fun hE => ?_) (fun hE => ?_)
      · refine j_sub [] rfl ?_
        exact p_X2_allows_18 C Q   S hE
      · refine j_iload_n C dX2_allows_12 1 rfl ?_
        refine j_bipush (v := 60) C dX2_allows_13 jc_bp_60 ?_
        refine j_icmp_lt (tgt := 20) C dX2_allows_15 rfl hE (fun hE => ?_) (fun hE => ?_)
        · refine j_aload_n C dX2_allows_20 0 rfl ?_
          refine g_X2_11_4 C dX2_allows_21 ?_
          refine j_iload_n C dX2_allows_24 1 rfl ?_
          refine j_bipush (v := 10) C dX2_allows_25 jc_bp_10 ?_
          refine j_idiv C dX2_allows_27 hE (fun v1 hE => ?_)
          refine j_case hE (fun e hE2 => ?_) (fun e0 hE => ?_)
          · clear hE
            subst e
            have hE := hE2
            refine a_5_0 C dX2_allows_28 ?_
            refine j_astore (lv' := [(4, .ref (ad 6)), (0, .ref (ad 4)), (1, .int x1), (2, .int x2), (3, .int x3)]) C dX2_allows_29 (by decide) rfl ?_
            refine j_aload C dX2_allows_31 0 rfl ?_
            refine j_ifnull C dX2_allows_33 ?_
            refine j_aload C dX2_allows_36 0 rfl ?_
            refine j_iload_n C dX2_allows_38 3 rfl ?_
            refine j_iload_n C dX2_allows_39 4 rfl ?_
            refine j_iload_n C dX2_allows_40 2 rfl ?_
            refine j_bipush (v := 10) C dX2_allows_41 jc_bp_10 ?_
            refine j_irem C dX2_allows_43 hE (fun v2 hE => ?_)
            refine k_X2_35_X5_lets C dX2_allows_44 hE (Nat.le_of_ble_eq_true rfl) (Nat.le_of_ble_eq_true rfl) (Nat.le_of_ble_eq_true rfl) (fun v4 S3 hE => ?_)
            refine j_if_eq (tgt := 54) C dX2_allows_47 rfl hE (fun hE => ?_) (fun hE => ?_)
            · refine j_iconst (v := 0) C dX2_allows_54 jc_ic_0 ?_
              refine j_sub [] rfl ?_
              exact p_X2_allows_55 C Q  0 S3 hE
            · refine j_sub [] rfl ?_
              exact p_X2_allows_50 C Q   S3 hE
          · skip
            refine j_case hE (fun e hE2 => ?_) (fun e1 hE => ?_)
            · clear hE
              subst e
              have hE := hE2
              refine a_5_1 C dX2_allows_28 ?_
              refine j_astore (lv' := [(4, .ref (ad 7)), (0, .ref (ad 4)), (1, .int x1), (2, .int x2), (3, .int x3)]) C dX2_allows_29 (by decide) rfl ?_
              refine j_aload C dX2_allows_31 0 rfl ?_
              refine j_ifnull C dX2_allows_33 ?_
              refine j_aload C dX2_allows_36 0 rfl ?_
              refine j_iload_n C dX2_allows_38 3 rfl ?_
              refine j_iload_n C dX2_allows_39 4 rfl ?_
              refine j_iload_n C dX2_allows_40 2 rfl ?_
              refine j_bipush (v := 10) C dX2_allows_41 jc_bp_10 ?_
              refine j_irem C dX2_allows_43 hE (fun v5 hE => ?_)
              refine k_X2_35_X0_lets C dX2_allows_44 hE (Nat.le_of_ble_eq_true rfl) (Nat.le_of_ble_eq_true rfl) (Nat.le_of_ble_eq_true rfl) (fun v7 S6 hE => ?_)
              refine j_if_eq (tgt := 54) C dX2_allows_47 rfl hE (fun hE => ?_) (fun hE => ?_)
              · refine j_iconst (v := 0) C dX2_allows_54 jc_ic_0 ?_
                refine j_sub [] rfl ?_
                exact p_X2_allows_55 C Q  0 S6 hE
              · refine j_sub [] rfl ?_
                exact p_X2_allows_50 C Q   S6 hE
            · skip
              refine j_case hE (fun e hE2 => ?_) (fun e2 hE => ?_)
              · clear hE
                subst e
                have hE := hE2
                refine a_5_2 C dX2_allows_28 ?_
                refine j_astore (lv' := [(4, .ref (ad 8)), (0, .ref (ad 4)), (1, .int x1), (2, .int x2), (3, .int x3)]) C dX2_allows_29 (by decide) rfl ?_
                refine j_aload C dX2_allows_31 0 rfl ?_
                refine j_ifnull C dX2_allows_33 ?_
                refine j_aload C dX2_allows_36 0 rfl ?_
                refine j_iload_n C dX2_allows_38 3 rfl ?_
                refine j_iload_n C dX2_allows_39 4 rfl ?_
                refine j_iload_n C dX2_allows_40 2 rfl ?_
                refine j_bipush (v := 10) C dX2_allows_41 jc_bp_10 ?_
                refine j_irem C dX2_allows_43 hE (fun v8 hE => ?_)
                refine k_X2_35_X6_lets C dX2_allows_44 hE (Nat.le_of_ble_eq_true rfl) (Nat.le_of_ble_eq_true rfl) (Nat.le_of_ble_eq_true rfl) (fun v10 S9 hE => ?_)
                refine j_if_eq (tgt := 54) C dX2_allows_47 rfl hE (fun hE => ?_) (fun hE => ?_)
                · refine j_iconst (v := 0) C dX2_allows_54 jc_ic_0 ?_
                  refine j_sub [] rfl ?_
                  exact p_X2_allows_55 C Q  0 S9 hE
                · refine j_sub [] rfl ?_
                  exact p_X2_allows_50 C Q   S9 hE
              · skip
                refine j_case hE (fun e hE2 => ?_) (fun e3 hE => ?_)
                · clear hE
                  subst e
                  have hE := hE2
                  refine a_5_3 C dX2_allows_28 ?_
                  refine j_astore (lv' := [(4, .ref (ad 9)), (0, .ref (ad 4)), (1, .int x1), (2, .int x2), (3, .int x3)]) C dX2_allows_29 (by decide) rfl ?_
                  refine j_aload C dX2_allows_31 0 rfl ?_
                  refine j_ifnull C dX2_allows_33 ?_
                  refine j_aload C dX2_allows_36 0 rfl ?_
                  refine j_iload_n C dX2_allows_38 3 rfl ?_
                  refine j_iload_n C dX2_allows_39 4 rfl ?_
                  refine j_iload_n C dX2_allows_40 2 rfl ?_
                  refine j_bipush (v := 10) C dX2_allows_41 jc_bp_10 ?_
                  refine j_irem C dX2_allows_43 hE (fun v11 hE => ?_)
                  refine k_X2_35_X9_lets C dX2_allows_44 hE (Nat.le_of_ble_eq_true rfl) (Nat.le_of_ble_eq_true rfl) (Nat.le_of_ble_eq_true rfl) (fun v13 S12 hE => ?_)
                  refine j_if_eq (tgt := 54) C dX2_allows_47 rfl hE (fun hE => ?_) (fun hE => ?_)
                  · refine j_iconst (v := 0) C dX2_allows_54 jc_ic_0 ?_
                    refine j_sub [] rfl ?_
                    exact p_X2_allows_55 C Q  0 S12 hE
                  · refine j_sub [] rfl ?_
                    exact p_X2_allows_50 C Q   S12 hE
                · skip
                  refine j_case hE (fun e hE2 => ?_) (fun e4 hE => ?_)
                  · clear hE
                    subst e
                    have hE := hE2
                    refine a_5_4 C dX2_allows_28 ?_
                    refine j_astore (lv' := [(4, .ref (ad 10)), (0, .ref (ad 4)), (1, .int x1), (2, .int x2), (3, .int x3)]) C dX2_allows_29 (by decide) rfl ?_
                    refine j_aload C dX2_allows_31 0 rfl ?_
                    refine j_ifnull C dX2_allows_33 ?_
                    refine j_aload C dX2_allows_36 0 rfl ?_
                    refine j_iload_n C dX2_allows_38 3 rfl ?_
                    refine j_iload_n C dX2_allows_39 4 rfl ?_
                    refine j_iload_n C dX2_allows_40 2 rfl ?_
                    refine j_bipush (v := 10) C dX2_allows_41 jc_bp_10 ?_
                    refine j_irem C dX2_allows_43 hE (fun v14 hE => ?_)
                    refine k_X2_35_X8_lets C dX2_allows_44 hE (Nat.le_of_ble_eq_true rfl) (Nat.le_of_ble_eq_true rfl) (Nat.le_of_ble_eq_true rfl) (fun v16 S15 hE => ?_)
                    refine j_if_eq (tgt := 54) C dX2_allows_47 rfl hE (fun hE => ?_) (fun hE => ?_)
                    · refine j_iconst (v := 0) C dX2_allows_54 jc_ic_0 ?_
                      refine j_sub [] rfl ?_
                      exact p_X2_allows_55 C Q  0 S15 hE
                    · refine j_sub [] rfl ?_
                      exact p_X2_allows_50 C Q   S15 hE
                  · skip
                    refine j_case hE (fun e hE2 => ?_) (fun e5 hE => ?_)
                    · clear hE
                      subst e
                      have hE := hE2
                      refine a_5_5 C dX2_allows_28 ?_
                      refine j_astore (lv' := [(4, .ref (ad 11)), (0, .ref (ad 4)), (1, .int x1), (2, .int x2), (3, .int x3)]) C dX2_allows_29 (by decide) rfl ?_
                      refine j_aload C dX2_allows_31 0 rfl ?_
                      refine j_ifnull C dX2_allows_33 ?_
                      refine j_aload C dX2_allows_36 0 rfl ?_
                      refine j_iload_n C dX2_allows_38 3 rfl ?_
                      refine j_iload_n C dX2_allows_39 4 rfl ?_
                      refine j_iload_n C dX2_allows_40 2 rfl ?_
                      refine j_bipush (v := 10) C dX2_allows_41 jc_bp_10 ?_
                      refine j_irem C dX2_allows_43 hE (fun v17 hE => ?_)
                      refine k_X2_35_X1_lets C dX2_allows_44 hE (Nat.le_of_ble_eq_true rfl) (Nat.le_of_ble_eq_true rfl) (Nat.le_of_ble_eq_true rfl) (fun v19 S18 hE => ?_)
                      refine j_if_eq (tgt := 54) C dX2_allows_47 rfl hE (fun hE => ?_) (fun hE => ?_)
                      · refine j_iconst (v := 0) C dX2_allows_54 jc_ic_0 ?_
                        refine j_sub [] rfl ?_
                        exact p_X2_allows_55 C Q  0 S18 hE
                      · refine j_sub [] rfl ?_
                        exact p_X2_allows_50 C Q   S18 hE
                    · skip
                      cases hE
        · refine j_sub [] rfl ?_
          exact p_X2_allows_18 C Q   S hE
theorem c_X2_allows {l : Launch} {D : va_G} {ad : Nat → Nat} {cy : Nat → ClassId} (hO : jOk (jMain D ad cy)) (x1 : Int32) (x2 : Int32) (x3 : Int32) (S : jS) {z : Int32 × jS} (hz : f_X2_allows x1 x2 x3 S = some z) : Met l yX2_allows (.code yX2_allows cX2_allows 5 (some .boolean) :: jT) { frames := 3, cells := 0, slots := 0, locals := 71 } (va_Pc [.ref (ad 4), .int x1, .int x2, .int x3] (jInv (jMain D ad cy) S)) (jQ (jMain D ad cy) (some (.int z.1), z.2)) 0 0 (yA (jMain D ad cy)) :=
  jMet hO (by decide +kernel) rfl (Nat.le_of_ble_eq_true rfl) (fun X _ C Q => p_X2_allows_e C Q x1 x2 x3 S hz)
theorem k_X2_39_X2_allows {X : jX} {D : va_G} {ad : Nat → Nat} {cy : Nat → ClassId} {cc : ByteArray} {ret : Option FieldType} {nL fr lo pc : Nat} {lv : List (Nat × Value)} {st : List Value} {S : jS} {β : Type} {z : β} (C : jC X (jMain D ad cy) RX2 cc ret nL fr lo) {a0 : Int32} {a1 : Int32} {a2 : Int32} {E : Int32 → jS → Option β} (d : decode cc pc = .ok (.invokevirtual 39, 3)) (hE : jcl (f_X2_allows a0 a1 a2 S) E = some z) (hfr : 4 ≤ fr) (hlo : 95 ≤ lo) (hst : (st.map fun v => v.category).sum ≤ 8) (K : ∀ (v : Int32) (S1 : jS), E v S1 = some z → jJ X (jMain D ad cy) (pc + 3) lv (.int v :: st) S1) : jJ X (jMain D ad cy) pc lv (.int a2 :: .int a1 :: .int a0 :: .ref (ad 4) :: st) S := by
  obtain ⟨v, h1, h2⟩ := jcl_some hE
  exact j_callV (k := 4) (ci := 2) (T := TX2) (N := 1) (n := 3) (As := [.int a0, .int a1, .int a2]) C (c_X2_allows C.2.2.2.2.2.2.1 a0 a1 a2 S h1) tw_543 tw_544 tw_545 tw_71 tw_546 (by decide +kernel) rfl (by decide : 4 < 56) rfl rfl hfr hlo hst rfl d (K _ _ h2)
theorem k_X11_156_X2_allows {X : jX} {D : va_G} {ad : Nat → Nat} {cy : Nat → ClassId} {cc : ByteArray} {ret : Option FieldType} {nL fr lo pc : Nat} {lv : List (Nat × Value)} {st : List Value} {S : jS} {β : Type} {z : β} (C : jC X (jMain D ad cy) RX11 cc ret nL fr lo) {a0 : Int32} {a1 : Int32} {a2 : Int32} {E : Int32 → jS → Option β} (d : decode cc pc = .ok (.invokevirtual 156, 3)) (hE : jcl (f_X2_allows a0 a1 a2 S) E = some z) (hfr : 4 ≤ fr) (hlo : 95 ≤ lo) (hst : (st.map fun v => v.category).sum ≤ 8) (K : ∀ (v : Int32) (S1 : jS), E v S1 = some z → jJ X (jMain D ad cy) (pc + 3) lv (.int v :: st) S1) : jJ X (jMain D ad cy) pc lv (.int a2 :: .int a1 :: .int a0 :: .ref (ad 4) :: st) S := by
  obtain ⟨v, h1, h2⟩ := jcl_some hE
  exact j_callV (k := 4) (ci := 2) (T := TX2) (N := 1) (n := 3) (As := [.int a0, .int a1, .int a2]) C (c_X2_allows C.2.2.2.2.2.2.1 a0 a1 a2 S h1) tw_592 tw_544 tw_545 tw_71 tw_546 (by decide +kernel) rfl (by decide : 4 < 56) rfl rfl hfr hlo hst rfl d (K _ _ h2)
theorem k_X4_45_X2_allows {X : jX} {D : va_G} {ad : Nat → Nat} {cy : Nat → ClassId} {cc : ByteArray} {ret : Option FieldType} {nL fr lo pc : Nat} {lv : List (Nat × Value)} {st : List Value} {S : jS} {β : Type} {z : β} (C : jC X (jMain D ad cy) RX4 cc ret nL fr lo) {a0 : Int32} {a1 : Int32} {a2 : Int32} {E : Int32 → jS → Option β} (d : decode cc pc = .ok (.invokevirtual 45, 3)) (hE : jcl (f_X2_allows a0 a1 a2 S) E = some z) (hfr : 4 ≤ fr) (hlo : 95 ≤ lo) (hst : (st.map fun v => v.category).sum ≤ 8) (K : ∀ (v : Int32) (S1 : jS), E v S1 = some z → jJ X (jMain D ad cy) (pc + 3) lv (.int v :: st) S1) : jJ X (jMain D ad cy) pc lv (.int a2 :: .int a1 :: .int a0 :: .ref (ad 4) :: st) S := by
  obtain ⟨v, h1, h2⟩ := jcl_some hE
  exact j_callV (k := 4) (ci := 2) (T := TX2) (N := 1) (n := 3) (As := [.int a0, .int a1, .int a2]) C (c_X2_allows C.2.2.2.2.2.2.1 a0 a1 a2 S h1) tw_630 tw_544 tw_545 tw_71 tw_546 (by decide +kernel) rfl (by decide : 4 < 56) rfl rfl hfr hlo hst rfl d (K _ _ h2)
set_option maxRecDepth 100000 in
theorem p_X2_quarrelling_r22_39 {X : jX} {D : va_G} {ad : Nat → Nat} {cy : Nat → ClassId} (C : jC X (jMain D ad cy) RX2 cX2_quarrelling (some .int) 5 4 95) {z : Int32 × jS} (Q : jRet X (jMain D ad cy) (some (.int z.1), z.2)) {g : Int32 → Int32 → Int32 → jS → Option (Int32 × jS)} (hg : ∀ (x1 : Int32) (x3 : Int32) (x4 : Int32) (S : jS), g x1 x3 x4 S = some z → jJ X (jMain D ad cy) 5 [(0, .ref (ad 4)), (1, .int x1), (2, .ref (ad 22)), (3, .int x3), (4, .int x4)] [] S) {k45 : Int32 → jS → Option (Int32 × jS)} (hk45 : ∀ (x3 : Int32) (S : jS), k45 x3 S = some z → jJ X (jMain D ad cy) 45 [(3, .int x3)] [] S) (x1 : Int32) (x3 : Int32) (x4 : Int32) (S : jS) (hE : f_X2_quarrelling_r22_39  g k45 x1 x3 x4 S = some z) : jJ X (jMain D ad cy) 39 [(0, .ref (ad 4)), (1, .int x1), (2, .ref (ad 22)), (3, .int x3), (4, .int x4)] [] S := by
  unfold f_X2_quarrelling_r22_39 at hE
  refine j_iinc (v := (x4 + 1)) (lv' := [(4, .int (x4 + 1)), (0, .ref (ad 4)), (1, .int x1), (2, .ref (ad 22)), (3, .int x3)]) C dX2_quarrelling_39 4 rfl (congrArg (fun w => x4 + w) jc_ic_1) (by decide) rfl ?_
  refine j_goto (tgt := 5) C dX2_quarrelling_42 rfl ?_
  refine j_sub [1, 2, 3, 4, 0] rfl ?_
  exact hg x1 x3 (x4 + 1) S hE
set_option maxRecDepth 100000 in
theorem p_X2_quarrelling_r22_5 {X : jX} {D : va_G} {ad : Nat → Nat} {cy : Nat → ClassId} (C : jC X (jMain D ad cy) RX2 cX2_quarrelling (some .int) 5 4 95) {z : Int32 × jS} (Q : jRet X (jMain D ad cy) (some (.int z.1), z.2)) {g : Int32 → Int32 → Int32 → jS → Option (Int32 × jS)} (hg : ∀ (x1 : Int32) (x3 : Int32) (x4 : Int32) (S : jS), g x1 x3 x4 S = some z → jJ X (jMain D ad cy) 5 [(0, .ref (ad 4)), (1, .int x1), (2, .ref (ad 22)), (3, .int x3), (4, .int x4)] [] S) {k45 : Int32 → jS → Option (Int32 × jS)} (hk45 : ∀ (x3 : Int32) (S : jS), k45 x3 S = some z → jJ X (jMain D ad cy) 45 [(3, .int x3)] [] S) (x1 : Int32) (x3 : Int32) (x4 : Int32) (S : jS) (hE : f_X2_quarrelling_r22_5  g k45 x1 x3 x4 S = some z) : jJ X (jMain D ad cy) 5 [(0, .ref (ad 4)), (1, .int x1), (2, .ref (ad 22)), (3, .int x3), (4, .int x4)] [] S := by
  unfold f_X2_quarrelling_r22_5 at hE
  refine j_iload C dX2_quarrelling_5 4 rfl ?_
  refine j_iconst (v := 1) C dX2_quarrelling_7 jc_ic_1 ?_
  refine j_iadd C dX2_quarrelling_8 ?_
  refine j_aload_n C dX2_quarrelling_9 2 rfl ?_
  refine n_22 C dX2_quarrelling_10 ?_
  refine j_icmp_ge (tgt := 45) C dX2_quarrelling_11 rfl hE (fun hE => ?_) (fun hE => ?_)
  · refine j_sub [3] rfl ?_
    exact hk45 x3 S hE
  · refine j_aload_n C dX2_quarrelling_14 0 rfl ?_
    refine j_iload_n C dX2_quarrelling_15 1 rfl ?_
    refine j_aload_n C dX2_quarrelling_16 2 rfl ?_
    refine j_iload C dX2_quarrelling_17 4 rfl ?_
    refine l_22 C dX2_quarrelling_19 hE (fun v1 hE => ?_)
    refine j_aload_n C dX2_quarrelling_20 2 rfl ?_
    refine j_iload C dX2_quarrelling_21 4 rfl ?_
    refine j_iconst (v := 1) C dX2_quarrelling_23 jc_ic_1 ?_
    refine j_iadd C dX2_quarrelling_24 ?_
    refine l_22 C dX2_quarrelling_25 hE (fun v2 hE => ?_)
    refine k_X2_39_X2_allows C dX2_quarrelling_26 hE (Nat.le_of_ble_eq_true rfl) (Nat.le_of_ble_eq_true rfl) (Nat.le_of_ble_eq_true rfl) (fun v4 S3 hE => ?_)
    refine j_if_ne (tgt := 39) C dX2_quarrelling_29 rfl hE (fun hE => ?_) (fun hE => ?_)
    · exact p_X2_quarrelling_r22_39 C Q hg hk45 x1 x3 x4 S3 hE
    · refine j_iload_n C dX2_quarrelling_32 3 rfl ?_
      refine j_iconst (v := 1) C dX2_quarrelling_33 jc_ic_1 ?_
      refine j_iload C dX2_quarrelling_34 4 rfl ?_
      refine j_ishl C dX2_quarrelling_36 ?_
      refine j_ior C dX2_quarrelling_37 ?_
      refine j_istore_n (i := 3) (lv' := [(3, .int (x3 ||| (1 <<< (x4 &&& 31)))), (0, .ref (ad 4)), (1, .int x1), (2, .ref (ad 22)), (4, .int x4)]) C dX2_quarrelling_38 rfl (by decide) rfl ?_
      refine j_sub [1, 2, 3, 0, 4] rfl ?_
      exact p_X2_quarrelling_r22_39 C Q hg hk45 x1 (x3 ||| (1 <<< (x4 &&& 31))) x4 S3 hE
theorem q_X2_quarrelling_r22_5 {X : jX} {D : va_G} {ad : Nat → Nat} {cy : Nat → ClassId} (C : jC X (jMain D ad cy) RX2 cX2_quarrelling (some .int) 5 4 95) {z : Int32 × jS} (Q : jRet X (jMain D ad cy) (some (.int z.1), z.2)) {k45 : Int32 → jS → Option (Int32 × jS)} (hk45 : ∀ (x3 : Int32) (S : jS), k45 x3 S = some z → jJ X (jMain D ad cy) 45 [(3, .int x3)] [] S) (x1 : Int32) (x3 : Int32) (x4 : Int32) (S : jS) (hE : lp_X2_quarrelling_r22_5  k45 x1 x3 x4 S = some z) : jJ X (jMain D ad cy) 5 [(0, .ref (ad 4)), (1, .int x1), (2, .ref (ad 22)), (3, .int x3), (4, .int x4)] [] S :=
  jloop_P (α := Int32 × Int32 × Int32 × jS) (B := (fun g q => f_X2_quarrelling_r22_5  (fun x1 x3 x4 S => g (x1, x3, x4, S)) k45 q.1 q.2.1 q.2.2.1 q.2.2.2)) (P := fun q => jJ X (jMain D ad cy) 5 [(0, .ref (ad 4)), (1, .int q.1), (2, .ref (ad 22)), (3, .int q.2.1), (4, .int q.2.2.1)] [] q.2.2.2) (fun g q hg h => p_X2_quarrelling_r22_5 C Q (g := fun x1 x3 x4 S => g (x1, x3, x4, S)) (fun x1 x3 x4 S h => hg (x1, x3, x4, S) h) hk45 q.1 q.2.1 q.2.2.1 q.2.2.2 h) jN (x1, x3, x4, S) hE
set_option maxRecDepth 100000 in
theorem p_X2_quarrelling_r22_45 {X : jX} {D : va_G} {ad : Nat → Nat} {cy : Nat → ClassId} (C : jC X (jMain D ad cy) RX2 cX2_quarrelling (some .int) 5 4 95) {z : Int32 × jS} (Q : jRet X (jMain D ad cy) (some (.int z.1), z.2))  (x3 : Int32) (S : jS) (hE : f_X2_quarrelling_r22_45   x3 S = some z) : jJ X (jMain D ad cy) 45 [(3, .int x3)] [] S := by
  unfold f_X2_quarrelling_r22_45 at hE
  refine j_iload_n C dX2_quarrelling_45 0 rfl ?_
  exact j_iret C Q dX2_quarrelling_46 hE
set_option maxRecDepth 100000 in
theorem p_X2_quarrelling_r22_e {X : jX} {D : va_G} {ad : Nat → Nat} {cy : Nat → ClassId} (C : jC X (jMain D ad cy) RX2 cX2_quarrelling (some .int) 5 4 95) {z : Int32 × jS} (Q : jRet X (jMain D ad cy) (some (.int z.1), z.2))  (x1 : Int32) (S : jS) (hE : f_X2_quarrelling_r22_e   x1 S = some z) : jJ X (jMain D ad cy) 0 [(0, .ref (ad 4)), (1, .int x1), (2, .ref (ad 22))] [] S := by
  unfold f_X2_quarrelling_r22_e at hE
  refine j_iconst (v := 0) C dX2_quarrelling_0 jc_ic_0 ?_
  refine j_istore_n (i := 3) (lv' := [(3, .int 0), (0, .ref (ad 4)), (1, .int x1), (2, .ref (ad 22))]) C dX2_quarrelling_1 rfl (by decide) rfl ?_
  refine j_iconst (v := 0) C dX2_quarrelling_2 jc_ic_0 ?_
  refine j_istore (lv' := [(4, .int 0), (3, .int 0), (0, .ref (ad 4)), (1, .int x1), (2, .ref (ad 22))]) C dX2_quarrelling_3 (by decide) rfl ?_
  refine j_sub [2, 3, 4, 1, 0] rfl ?_
  exact q_X2_quarrelling_r22_5 C Q (p_X2_quarrelling_r22_45 C Q ) x1 0 0 S hE
theorem c_X2_quarrelling_r22 {l : Launch} {D : va_G} {ad : Nat → Nat} {cy : Nat → ClassId} (hO : jOk (jMain D ad cy)) (x1 : Int32) (S : jS) {z : Int32 × jS} (hz : f_X2_quarrelling_r22 x1 S = some z) : Met l yX2_quarrelling (.code yX2_quarrelling cX2_quarrelling 5 (some .int) :: jT) { frames := 4, cells := 0, slots := 0, locals := 95 } (va_Pc [.ref (ad 4), .int x1, .ref (ad 22)] (jInv (jMain D ad cy) S)) (jQ (jMain D ad cy) (some (.int z.1), z.2)) 0 0 (yA (jMain D ad cy)) :=
  jMet hO (by decide +kernel) rfl (Nat.le_of_ble_eq_true rfl) (fun X _ C Q => p_X2_quarrelling_r22_e C Q x1 S hz)
theorem k_X11_146_X2_quarrelling_r22 {X : jX} {D : va_G} {ad : Nat → Nat} {cy : Nat → ClassId} {cc : ByteArray} {ret : Option FieldType} {nL fr lo pc : Nat} {lv : List (Nat × Value)} {st : List Value} {S : jS} {β : Type} {z : β} (C : jC X (jMain D ad cy) RX11 cc ret nL fr lo) {a0 : Int32} {E : Int32 → jS → Option β} (d : decode cc pc = .ok (.invokevirtual 146, 3)) (hE : jcl (f_X2_quarrelling_r22 a0 S) E = some z) (hfr : 5 ≤ fr) (hlo : 119 ≤ lo) (hst : (st.map fun v => v.category).sum ≤ 8) (K : ∀ (v : Int32) (S1 : jS), E v S1 = some z → jJ X (jMain D ad cy) (pc + 3) lv (.int v :: st) S1) : jJ X (jMain D ad cy) pc lv (.ref (ad 22) :: .int a0 :: .ref (ad 4) :: st) S := by
  obtain ⟨v, h1, h2⟩ := jcl_some hE
  exact j_callV (k := 4) (ci := 2) (T := TX2) (N := 1) (n := 2) (As := [.int a0, .ref (ad 22)]) C (c_X2_quarrelling_r22 C.2.2.2.2.2.2.1 a0 S h1) tw_539 tw_540 tw_541 tw_71 tw_542 (by decide +kernel) rfl (by decide : 4 < 56) rfl rfl hfr hlo hst rfl d (K _ _ h2)
set_option maxRecDepth 100000 in
theorem p_X4_bothOf_e {X : jX} {D : va_G} {ad : Nat → Nat} {cy : Nat → ClassId} (C : jC X (jMain D ad cy) RX4 cX4_bothOf (some .int) 1 0 0) {z : Int32 × jS} (Q : jRet X (jMain D ad cy) (some (.int z.1), z.2))  (x0 : Int32) (S : jS) (hE : f_X4_bothOf_e   x0 S = some z) : jJ X (jMain D ad cy) 0 [(0, .int x0)] [] S := by
  unfold f_X4_bothOf_e at hE
  refine j_iload_n C dX4_bothOf_0 0 rfl ?_
  refine j_iload_n C dX4_bothOf_1 0 rfl ?_
  refine j_iconst (v := 1) C dX4_bothOf_2 jc_ic_1 ?_
  refine j_ishl C dX4_bothOf_3 ?_
  refine j_ior C dX4_bothOf_4 ?_
  exact j_iret C Q dX4_bothOf_5 hE
theorem c_X4_bothOf {l : Launch} {D : va_G} {ad : Nat → Nat} {cy : Nat → ClassId} (hO : jOk (jMain D ad cy)) (x0 : Int32) (S : jS) {z : Int32 × jS} (hz : f_X4_bothOf x0 S = some z) : Met l yX4_bothOf (.code yX4_bothOf cX4_bothOf 1 (some .int) :: jT) { frames := 0, cells := 0, slots := 0, locals := 0 } (va_Pc [.int x0] (jInv (jMain D ad cy) S)) (jQ (jMain D ad cy) (some (.int z.1), z.2)) 0 0 (yA (jMain D ad cy)) :=
  jMet hO (by decide +kernel) rfl (Nat.le_of_ble_eq_true rfl) (fun X _ C Q => p_X4_bothOf_e C Q x0 S hz)
theorem k_X11_150_X4_bothOf {X : jX} {D : va_G} {ad : Nat → Nat} {cy : Nat → ClassId} {cc : ByteArray} {ret : Option FieldType} {nL fr lo pc : Nat} {lv : List (Nat × Value)} {st : List Value} {S : jS} {β : Type} {z : β} (C : jC X (jMain D ad cy) RX11 cc ret nL fr lo) {a0 : Int32} {E : Int32 → jS → Option β} (d : decode cc pc = .ok (.invokestatic 150, 3)) (hE : jcl (f_X4_bothOf a0 S) E = some z) (hfr : 1 ≤ fr) (hlo : 20 ≤ lo) (hst : (st.map fun v => v.category).sum ≤ 8) (K : ∀ (v : Int32) (S1 : jS), E v S1 = some z → jJ X (jMain D ad cy) (pc + 3) lv (.int v :: st) S1) : jJ X (jMain D ad cy) pc lv (.int a0 :: st) S := by
  obtain ⟨v, h1, h2⟩ := jcl_some hE
  exact j_callS (n := 1) (As := [.int a0]) C (c_X4_bothOf C.2.2.2.2.2.2.1 a0 S h1) tw_584 tw_585 tw_78 tw_586 (by decide +kernel) rfl hfr hlo hst rfl d (K _ _ h2)
set_option maxRecDepth 100000 in
theorem p_X11_of_16 {X : jX} {D : va_G} {ad : Nat → Nat} {cy : Nat → ClassId} (C : jC X (jMain D ad cy) RX11 cX11_of (some .int) 4 5 119) {z : Int32 × jS} (Q : jRet X (jMain D ad cy) (some (.int z.1), z.2))   (S : jS) (hE : f_X11_of_16    S = some z) : jJ X (jMain D ad cy) 16 [(0, .ref (ad 0))] [] S := by
  unfold f_X11_of_16 at hE
  refine j_aload_n C dX11_of_16 0 rfl ?_
  refine k_X11_74_X11_refuseBad C dX11_of_17 hE (Nat.le_of_ble_eq_true rfl) (Nat.le_of_ble_eq_true rfl) (Nat.le_of_ble_eq_true rfl) (fun v2 S1 hE => ?_)
  exact j_iret C Q dX11_of_20 hE
set_option maxRecDepth 100000 in
theorem p_X11_of_e {X : jX} {D : va_G} {ad : Nat → Nat} {cy : Nat → ClassId} (C : jC X (jMain D ad cy) RX11 cX11_of (some .int) 4 5 119) {z : Int32 × jS} (Q : jRet X (jMain D ad cy) (some (.int z.1), z.2))  (x1 : Int32) (x2 : Int32) (S : jS) (hE : f_X11_of_e   x1 x2 S = some z) : jJ X (jMain D ad cy) 0 [(0, .ref (ad 0)), (1, .int x1), (2, .int x2)] [] S := by
  unfold f_X11_of_e at hE
  refine j_iload_n C dX11_of_0 1 rfl ?_
  refine k_X11_92_X11_isHouse C dX11_of_1 hE (Nat.le_of_ble_eq_true rfl) (Nat.le_of_ble_eq_true rfl) (Nat.le_of_ble_eq_true rfl) (fun v2 S1 hE => ?_)
  refine j_if_eq (tgt := 16) C dX11_of_4 rfl hE (fun hE => ?_) (fun hE => ?_)
  · refine j_sub [0] rfl ?_
    exact p_X11_of_16 C Q   S1 hE
  · refine j_iload_n C dX11_of_7 2 rfl ?_
    refine j_if_lt (tgt := 16) C dX11_of_8 rfl hE (fun hE => ?_) (fun hE => ?_)
    · refine j_sub [0] rfl ?_
      exact p_X11_of_16 C Q   S1 hE
    · refine j_iload_n C dX11_of_11 2 rfl ?_
      refine j_iconst (v := 4) C dX11_of_12 jc_ic_4 ?_
      refine j_icmp_le (tgt := 21) C dX11_of_13 rfl hE (fun hE => ?_) (fun hE => ?_)
      · refine j_aload_n C dX11_of_21 0 rfl ?_
        refine g_X11_44_0 C dX11_of_22 ?_
        refine g_X11_96_21 C dX11_of_25 ?_
        refine j_iload_n C dX11_of_28 1 rfl ?_
        refine l_22 C dX11_of_29 hE (fun v3 hE => ?_)
        refine j_istore_n (i := 3) (lv' := [(3, .int v3), (0, .ref (ad 0)), (1, .int x1), (2, .int x2)]) C dX11_of_30 rfl (by decide) rfl ?_
        refine j_iload_n C dX11_of_31 0 rfl ?_
        refine j_if_ne (tgt := 37) C dX11_of_32 rfl hE (fun hE => ?_) (fun hE => ?_)
        · refine j_iload_n C dX11_of_37 3 rfl ?_
          refine j_case hE (fun e hE => ?_) (fun e0 hE => ?_)
          · refine j_tin (tgt := 68) C dX11_of_38 (by rw [e]; decide) (by rw [e]; decide) (by rw [e]; rfl) rfl ?_
            refine j_iload_n C dX11_of_68 0 rfl ?_
            exact j_iret C Q dX11_of_69 hE
          · skip
            refine j_case hE (fun e hE => ?_) (fun e1 hE => ?_)
            · refine j_tin (tgt := 70) C dX11_of_38 (by rw [e]; decide) (by rw [e]; decide) (by rw [e]; rfl) rfl ?_
              refine j_aload_n C dX11_of_70 1 rfl ?_
              refine g_X11_10_0 C dX11_of_71 ?_
              refine j_iload_n C dX11_of_74 0 rfl ?_
              refine k_X11_132_X3_partsOf C dX11_of_75 hE (Nat.le_of_ble_eq_true rfl) (Nat.le_of_ble_eq_true rfl) (Nat.le_of_ble_eq_true rfl) (fun v5 S4 hE => ?_)
              exact j_iret C Q dX11_of_78 hE
            · skip
              refine j_case hE (fun e hE => ?_) (fun e2 hE => ?_)
              · refine j_tin (tgt := 79) C dX11_of_38 (by rw [e]; decide) (by rw [e]; decide) (by rw [e]; rfl) rfl ?_
                refine j_aload_n C dX11_of_79 1 rfl ?_
                refine g_X11_10_0 C dX11_of_80 ?_
                refine j_iload_n C dX11_of_83 0 rfl ?_
                refine k_X11_136_X3_isPrime C dX11_of_84 hE (Nat.le_of_ble_eq_true rfl) (Nat.le_of_ble_eq_true rfl) (Nat.le_of_ble_eq_true rfl) (fun v7 S6 hE => ?_)
                refine k_X11_139_X11_bit C dX11_of_87 hE (Nat.le_of_ble_eq_true rfl) (Nat.le_of_ble_eq_true rfl) (Nat.le_of_ble_eq_true rfl) (fun v9 S8 hE => ?_)
                exact j_iret C Q dX11_of_90 hE
              · skip
                refine j_case hE (fun e hE => ?_) (fun e3 hE => ?_)
                · refine j_tin (tgt := 91) C dX11_of_38 (by rw [e]; decide) (by rw [e]; decide) (by rw [e]; rfl) rfl ?_
                  refine j_aload_n C dX11_of_91 1 rfl ?_
                  refine g_X11_10_0 C dX11_of_92 ?_
                  refine j_iload_n C dX11_of_95 0 rfl ?_
                  refine k_X11_143_X3_isSquare C dX11_of_96 hE (Nat.le_of_ble_eq_true rfl) (Nat.le_of_ble_eq_true rfl) (Nat.le_of_ble_eq_true rfl) (fun v11 S10 hE => ?_)
                  refine k_X11_139_X11_bit C dX11_of_99 hE (Nat.le_of_ble_eq_true rfl) (Nat.le_of_ble_eq_true rfl) (Nat.le_of_ble_eq_true rfl) (fun v13 S12 hE => ?_)
                  exact j_iret C Q dX11_of_102 hE
                · skip
                  refine j_tout (tgt := 103) C dX11_of_38 (by have w0 := lv_neT (a := 0) e0 (by decide); have w1 := lv_neT (a := 1) e1 (by decide); have w2 := lv_neT (a := 2) e2 (by decide); have w3 := lv_neT (a := 3) e3 (by decide); omega) rfl ?_
                  refine j_aload_n C dX11_of_103 1 rfl ?_
                  refine g_X11_21_0 C dX11_of_104 ?_
                  refine j_aload_n C dX11_of_107 1 rfl ?_
                  refine g_X11_44_0 C dX11_of_108 ?_
                  refine g_X11_85_21 C dX11_of_111 ?_
                  refine j_aload_n C dX11_of_114 1 rfl ?_
                  refine g_X11_44_0 C dX11_of_115 ?_
                  refine g_X11_96_21 C dX11_of_118 ?_
                  refine k_X11_146_X2_quarrelling_r22 C dX11_of_121 hE (Nat.le_of_ble_eq_true rfl) (Nat.le_of_ble_eq_true rfl) (Nat.le_of_ble_eq_true rfl) (fun v15 S14 hE => ?_)
                  refine k_X11_150_X4_bothOf C dX11_of_124 hE (Nat.le_of_ble_eq_true rfl) (Nat.le_of_ble_eq_true rfl) (Nat.le_of_ble_eq_true rfl) (fun v17 S16 hE => ?_)
                  refine j_iload_n C dX11_of_127 2 rfl ?_
                  refine j_ishr C dX11_of_128 ?_
                  refine j_iconst (v := 1) C dX11_of_129 jc_ic_1 ?_
                  refine j_iand C dX11_of_130 ?_
                  exact j_iret C Q dX11_of_131 hE
        · refine j_iconst (v := 0) C dX11_of_35 jc_ic_0 ?_
          exact j_iret C Q dX11_of_36 hE
      · refine j_sub [0] rfl ?_
        exact p_X11_of_16 C Q   S1 hE
theorem c_X11_of {l : Launch} {D : va_G} {ad : Nat → Nat} {cy : Nat → ClassId} (hO : jOk (jMain D ad cy)) (x1 : Int32) (x2 : Int32) (S : jS) {z : Int32 × jS} (hz : f_X11_of x1 x2 S = some z) : Met l yX11_of (.code yX11_of cX11_of 4 (some .int) :: jT) { frames := 5, cells := 0, slots := 0, locals := 119 } (va_Pc [.ref (ad 0), .int x1, .int x2] (jInv (jMain D ad cy) S)) (jQ (jMain D ad cy) (some (.int z.1), z.2)) 0 0 (yA (jMain D ad cy)) :=
  jMet hO (by decide +kernel) rfl (Nat.le_of_ble_eq_true rfl) (fun X _ C Q => p_X11_of_e C Q x1 x2 S hz)
set_option maxRecDepth 100000 in
theorem p_X12_isNumber_e {X : jX} {D : va_G} {ad : Nat → Nat} {cy : Nat → ClassId} (C : jC X (jMain D ad cy) RX12 cX12_isNumber (some .boolean) 1 1 25) {z : Int32 × jS} (Q : jRet X (jMain D ad cy) (some (.int z.1), z.2))  (x0 : Int32) (S : jS) (hE : f_X12_isNumber_e   x0 S = some z) : jJ X (jMain D ad cy) 0 [(0, .int x0)] [] S := by
  unfold f_X12_isNumber_e at hE
  refine j_iload_n C dX12_isNumber_0 0 rfl ?_
  refine j_i2l C dX12_isNumber_1 ?_
  refine j_lconst (v := 1) C dX12_isNumber_2 jc_lc_1 ?_
  refine j_ldc2 (v := 300) C dX12_isNumber_3 tw_995 ?_
  refine k_X12_59_X12_in C dX12_isNumber_6 hE (Nat.le_of_ble_eq_true rfl) (Nat.le_of_ble_eq_true rfl) (Nat.le_of_ble_eq_true rfl) (fun v2 S1 hE => ?_)
  exact j_zret C Q dX12_isNumber_9 hE
theorem c_X12_isNumber {l : Launch} {D : va_G} {ad : Nat → Nat} {cy : Nat → ClassId} (hO : jOk (jMain D ad cy)) (x0 : Int32) (S : jS) {z : Int32 × jS} (hz : f_X12_isNumber x0 S = some z) : Met l yX12_isNumber (.code yX12_isNumber cX12_isNumber 1 (some .boolean) :: jT) { frames := 1, cells := 0, slots := 0, locals := 25 } (va_Pc [.int x0] (jInv (jMain D ad cy) S)) (jQ (jMain D ad cy) (some (.int z.1), z.2)) 0 0 (yA (jMain D ad cy)) :=
  jMet hO (by decide +kernel) rfl (Nat.le_of_ble_eq_true rfl) (fun X _ C Q => p_X12_isNumber_e C Q x0 S hz)
theorem k_X12_131_X12_isNumber {X : jX} {D : va_G} {ad : Nat → Nat} {cy : Nat → ClassId} {cc : ByteArray} {ret : Option FieldType} {nL fr lo pc : Nat} {lv : List (Nat × Value)} {st : List Value} {S : jS} {β : Type} {z : β} (C : jC X (jMain D ad cy) RX12 cc ret nL fr lo) {a0 : Int32} {E : Int32 → jS → Option β} (d : decode cc pc = .ok (.invokestatic 131, 3)) (hE : jcl (f_X12_isNumber a0 S) E = some z) (hfr : 2 ≤ fr) (hlo : 45 ≤ lo) (hst : (st.map fun v => v.category).sum ≤ 8) (K : ∀ (v : Int32) (S1 : jS), E v S1 = some z → jJ X (jMain D ad cy) (pc + 3) lv (.int v :: st) S1) : jJ X (jMain D ad cy) pc lv (.int a0 :: st) S := by
  obtain ⟨v, h1, h2⟩ := jcl_some hE
  exact j_callS (n := 1) (As := [.int a0]) C (c_X12_isNumber C.2.2.2.2.2.2.1 a0 S h1) tw_1055 tw_1056 tw_81 tw_1057 (by decide +kernel) rfl hfr hlo hst rfl d (K _ _ h2)
set_option maxRecDepth 100000 in
theorem p_X12_may_37 {X : jX} {D : va_G} {ad : Nat → Nat} {cy : Nat → ClassId} (C : jC X (jMain D ad cy) RX12 cX12_may (some .int) 3 3 70) {z : Int32 × jS} (Q : jRet X (jMain D ad cy) (some (.int z.1), z.2))  (a0 : Int32) (S : jS) (hE : f_X12_may_37   a0 S = some z) : jJ X (jMain D ad cy) 37 [] [.int a0] S := by
  unfold f_X12_may_37 at hE
  exact j_iret C Q dX12_may_37 hE
set_option maxRecDepth 100000 in
theorem p_X12_may_31 {X : jX} {D : va_G} {ad : Nat → Nat} {cy : Nat → ClassId} (C : jC X (jMain D ad cy) RX12 cX12_may (some .int) 3 3 70) {z : Int32 × jS} (Q : jRet X (jMain D ad cy) (some (.int z.1), z.2))   (S : jS) (hE : f_X12_may_31    S = some z) : jJ X (jMain D ad cy) 31 [(0, .ref (ad 41))] [] S := by
  unfold f_X12_may_31 at hE
  refine j_aload_n C dX12_may_31 0 rfl ?_
  refine j_bipush (v := (-2)) C dX12_may_32 jc_bp_m2 ?_
  refine k_X12_87_X12_bad C dX12_may_34 hE (Nat.le_of_ble_eq_true rfl) (Nat.le_of_ble_eq_true rfl) (Nat.le_of_ble_eq_true rfl) (fun v2 S1 hE => ?_)
  refine j_sub [] rfl ?_
  exact p_X12_may_37 C Q  v2 S1 hE
set_option maxRecDepth 100000 in
theorem p_X12_may_e {X : jX} {D : va_G} {ad : Nat → Nat} {cy : Nat → ClassId} (C : jC X (jMain D ad cy) RX12 cX12_may (some .int) 3 3 70) {z : Int32 × jS} (Q : jRet X (jMain D ad cy) (some (.int z.1), z.2))  (x1 : Int32) (x2 : Int32) (S : jS) (hE : f_X12_may_e   x1 x2 S = some z) : jJ X (jMain D ad cy) 0 [(0, .ref (ad 41)), (1, .int x1), (2, .int x2)] [] S := by
  unfold f_X12_may_e at hE
  refine j_iload_n C dX12_may_0 1 rfl ?_
  refine k_X12_131_X12_isNumber C dX12_may_1 hE (Nat.le_of_ble_eq_true rfl) (Nat.le_of_ble_eq_true rfl) (Nat.le_of_ble_eq_true rfl) (fun v2 S1 hE => ?_)
  refine j_if_eq (tgt := 31) C dX12_may_4 rfl hE (fun hE => ?_) (fun hE => ?_)
  · refine j_sub [0] rfl ?_
    exact p_X12_may_31 C Q   S1 hE
  · refine j_iload_n C dX12_may_7 2 rfl ?_
    refine k_X12_131_X12_isNumber C dX12_may_8 hE (Nat.le_of_ble_eq_true rfl) (Nat.le_of_ble_eq_true rfl) (Nat.le_of_ble_eq_true rfl) (fun v4 S3 hE => ?_)
    refine j_if_eq (tgt := 31) C dX12_may_11 rfl hE (fun hE => ?_) (fun hE => ?_)
    · refine j_sub [0] rfl ?_
      exact p_X12_may_31 C Q   S3 hE
    · refine j_aload_n C dX12_may_14 0 rfl ?_
      refine j_iload_n C dX12_may_15 1 rfl ?_
      refine j_iload_n C dX12_may_16 2 rfl ?_
      refine k_X12_117_X12_mayNow C dX12_may_17 hE (Nat.le_of_ble_eq_true rfl) (Nat.le_of_ble_eq_true rfl) (Nat.le_of_ble_eq_true rfl) (fun v6 S5 hE => ?_)
      refine j_if_eq (tgt := 27) C dX12_may_20 rfl hE (fun hE => ?_) (fun hE => ?_)
      · refine j_iconst (v := 0) C dX12_may_27 jc_ic_0 ?_
        refine j_goto (tgt := 37) C dX12_may_28 rfl ?_
        refine j_sub [] rfl ?_
        exact p_X12_may_37 C Q  0 S5 hE
      · refine j_iconst (v := 1) C dX12_may_23 jc_ic_1 ?_
        refine j_goto (tgt := 37) C dX12_may_24 rfl ?_
        refine j_sub [] rfl ?_
        exact p_X12_may_37 C Q  1 S5 hE
theorem c_X12_may {l : Launch} {D : va_G} {ad : Nat → Nat} {cy : Nat → ClassId} (hO : jOk (jMain D ad cy)) (x1 : Int32) (x2 : Int32) (S : jS) {z : Int32 × jS} (hz : f_X12_may x1 x2 S = some z) : Met l yX12_may (.code yX12_may cX12_may 3 (some .int) :: jT) { frames := 3, cells := 0, slots := 0, locals := 70 } (va_Pc [.ref (ad 41), .int x1, .int x2] (jInv (jMain D ad cy) S)) (jQ (jMain D ad cy) (some (.int z.1), z.2)) 0 0 (yA (jMain D ad cy)) :=
  jMet hO (by decide +kernel) rfl (Nat.le_of_ble_eq_true rfl) (fun X _ C Q => p_X12_may_e C Q x1 x2 S hz)
set_option maxRecDepth 100000 in
theorem p_X11_may_14 {X : jX} {D : va_G} {ad : Nat → Nat} {cy : Nat → ClassId} (C : jC X (jMain D ad cy) RX11 cX11_may (some .int) 3 4 95) {z : Int32 × jS} (Q : jRet X (jMain D ad cy) (some (.int z.1), z.2))   (S : jS) (hE : f_X11_may_14    S = some z) : jJ X (jMain D ad cy) 14 [(0, .ref (ad 0))] [] S := by
  unfold f_X11_may_14 at hE
  refine j_aload_n C dX11_may_14 0 rfl ?_
  refine k_X11_74_X11_refuseBad C dX11_may_15 hE (Nat.le_of_ble_eq_true rfl) (Nat.le_of_ble_eq_true rfl) (Nat.le_of_ble_eq_true rfl) (fun v2 S1 hE => ?_)
  exact j_iret C Q dX11_may_18 hE
set_option maxRecDepth 100000 in
theorem p_X11_may_e {X : jX} {D : va_G} {ad : Nat → Nat} {cy : Nat → ClassId} (C : jC X (jMain D ad cy) RX11 cX11_may (some .int) 3 4 95) {z : Int32 × jS} (Q : jRet X (jMain D ad cy) (some (.int z.1), z.2))  (x1 : Int32) (x2 : Int32) (S : jS) (hE : f_X11_may_e   x1 x2 S = some z) : jJ X (jMain D ad cy) 0 [(0, .ref (ad 0)), (1, .int x1), (2, .int x2)] [] S := by
  unfold f_X11_may_e at hE
  refine j_iload_n C dX11_may_0 1 rfl ?_
  refine k_X11_153_X11_isNumber C dX11_may_1 hE (Nat.le_of_ble_eq_true rfl) (Nat.le_of_ble_eq_true rfl) (Nat.le_of_ble_eq_true rfl) (fun v2 S1 hE => ?_)
  refine j_if_eq (tgt := 14) C dX11_may_4 rfl hE (fun hE => ?_) (fun hE => ?_)
  · refine j_sub [0] rfl ?_
    exact p_X11_may_14 C Q   S1 hE
  · refine j_iload_n C dX11_may_7 2 rfl ?_
    refine k_X11_153_X11_isNumber C dX11_may_8 hE (Nat.le_of_ble_eq_true rfl) (Nat.le_of_ble_eq_true rfl) (Nat.le_of_ble_eq_true rfl) (fun v4 S3 hE => ?_)
    refine j_if_ne (tgt := 19) C dX11_may_11 rfl hE (fun hE => ?_) (fun hE => ?_)
    · refine j_aload_n C dX11_may_19 0 rfl ?_
      refine g_X11_21_0 C dX11_may_20 ?_
      refine j_aload_n C dX11_may_23 0 rfl ?_
      refine g_X11_44_0 C dX11_may_24 ?_
      refine g_X11_85_21 C dX11_may_27 ?_
      refine j_iload_n C dX11_may_30 1 rfl ?_
      refine j_iload_n C dX11_may_31 2 rfl ?_
      refine k_X11_156_X2_allows C dX11_may_32 hE (Nat.le_of_ble_eq_true rfl) (Nat.le_of_ble_eq_true rfl) (Nat.le_of_ble_eq_true rfl) (fun v6 S5 hE => ?_)
      refine k_X11_139_X11_bit C dX11_may_35 hE (Nat.le_of_ble_eq_true rfl) (Nat.le_of_ble_eq_true rfl) (Nat.le_of_ble_eq_true rfl) (fun v8 S7 hE => ?_)
      exact j_iret C Q dX11_may_38 hE
    · refine j_sub [0] rfl ?_
      exact p_X11_may_14 C Q   S3 hE
theorem c_X11_may {l : Launch} {D : va_G} {ad : Nat → Nat} {cy : Nat → ClassId} (hO : jOk (jMain D ad cy)) (x1 : Int32) (x2 : Int32) (S : jS) {z : Int32 × jS} (hz : f_X11_may x1 x2 S = some z) : Met l yX11_may (.code yX11_may cX11_may 3 (some .int) :: jT) { frames := 4, cells := 0, slots := 0, locals := 95 } (va_Pc [.ref (ad 0), .int x1, .int x2] (jInv (jMain D ad cy) S)) (jQ (jMain D ad cy) (some (.int z.1), z.2)) 0 0 (yA (jMain D ad cy)) :=
  jMet hO (by decide +kernel) rfl (Nat.le_of_ble_eq_true rfl) (fun X _ C Q => p_X11_may_e C Q x1 x2 S hz)
set_option maxRecDepth 100000 in
theorem p_X12_manyQuarrels_24 {X : jX} {D : va_G} {ad : Nat → Nat} {cy : Nat → ClassId} (C : jC X (jMain D ad cy) RX12 cX12_manyQuarrels (some .int) 3 4 91) {z : Int32 × jS} (Q : jRet X (jMain D ad cy) (some (.int z.1), z.2)) {g : Int32 → Int32 → jS → Option (Int32 × jS)} (hg : ∀ (x1 : Int32) (x2 : Int32) (S : jS), g x1 x2 S = some z → jJ X (jMain D ad cy) 4 [(0, .ref (ad 41)), (1, .int x1), (2, .int x2)] [] S) {k32 : Int32 → jS → Option (Int32 × jS)} (hk32 : ∀ (x1 : Int32) (S : jS), k32 x1 S = some z → jJ X (jMain D ad cy) 32 [(1, .int x1)] [] S) (a0 : Int32) (a1 : Int32) (x2 : Int32) (S : jS) (hE : f_X12_manyQuarrels_24  g k32 a0 a1 x2 S = some z) : jJ X (jMain D ad cy) 24 [(0, .ref (ad 41)), (2, .int x2)] [.int a0, .int a1] S := by
  unfold f_X12_manyQuarrels_24 at hE
  refine j_iadd C dX12_manyQuarrels_24 ?_
  refine j_istore_n (i := 1) (lv' := [(1, .int (a1 + a0)), (0, .ref (ad 41)), (2, .int x2)]) C dX12_manyQuarrels_25 rfl (by decide) rfl ?_
  refine j_iinc (v := (x2 + 1)) (lv' := [(2, .int (x2 + 1)), (1, .int (a1 + a0)), (0, .ref (ad 41))]) C dX12_manyQuarrels_26 2 rfl (congrArg (fun w => x2 + w) jc_ic_1) (by decide) rfl ?_
  refine j_goto (tgt := 4) C dX12_manyQuarrels_29 rfl ?_
  refine j_sub [2, 1, 0] rfl ?_
  exact hg (a1 + a0) (x2 + 1) S hE
set_option maxRecDepth 100000 in
theorem p_X12_manyQuarrels_4 {X : jX} {D : va_G} {ad : Nat → Nat} {cy : Nat → ClassId} (C : jC X (jMain D ad cy) RX12 cX12_manyQuarrels (some .int) 3 4 91) {z : Int32 × jS} (Q : jRet X (jMain D ad cy) (some (.int z.1), z.2)) {g : Int32 → Int32 → jS → Option (Int32 × jS)} (hg : ∀ (x1 : Int32) (x2 : Int32) (S : jS), g x1 x2 S = some z → jJ X (jMain D ad cy) 4 [(0, .ref (ad 41)), (1, .int x1), (2, .int x2)] [] S) {k32 : Int32 → jS → Option (Int32 × jS)} (hk32 : ∀ (x1 : Int32) (S : jS), k32 x1 S = some z → jJ X (jMain D ad cy) 32 [(1, .int x1)] [] S) (x1 : Int32) (x2 : Int32) (S : jS) (hE : f_X12_manyQuarrels_4  g k32 x1 x2 S = some z) : jJ X (jMain D ad cy) 4 [(0, .ref (ad 41)), (1, .int x1), (2, .int x2)] [] S := by
  unfold f_X12_manyQuarrels_4 at hE
  refine j_iload_n C dX12_manyQuarrels_4 2 rfl ?_
  refine j_bipush (v := 7) C dX12_manyQuarrels_5 jc_bp_7 ?_
  refine j_icmp_ge (tgt := 32) C dX12_manyQuarrels_7 rfl hE (fun hE => ?_) (fun hE => ?_)
  · refine j_sub [1] rfl ?_
    exact hk32 x1 S hE
  · refine j_iload_n C dX12_manyQuarrels_10 1 rfl ?_
    refine j_aload_n C dX12_manyQuarrels_11 0 rfl ?_
    refine j_iload_n C dX12_manyQuarrels_12 2 rfl ?_
    refine k_X12_120_X12_isQuarrel C dX12_manyQuarrels_13 hE (Nat.le_of_ble_eq_true rfl) (Nat.le_of_ble_eq_true rfl) (Nat.le_of_ble_eq_true rfl) (fun v2 S1 hE => ?_)
    refine j_if_eq (tgt := 23) C dX12_manyQuarrels_16 rfl hE (fun hE => ?_) (fun hE => ?_)
    · refine j_iconst (v := 0) C dX12_manyQuarrels_23 jc_ic_0 ?_
      refine j_sub [0, 2] rfl ?_
      exact p_X12_manyQuarrels_24 C Q hg hk32 0 x1 x2 S1 hE
    · refine j_iconst (v := 1) C dX12_manyQuarrels_19 jc_ic_1 ?_
      refine j_goto (tgt := 24) C dX12_manyQuarrels_20 rfl ?_
      refine j_sub [0, 2] rfl ?_
      exact p_X12_manyQuarrels_24 C Q hg hk32 1 x1 x2 S1 hE
theorem q_X12_manyQuarrels_4 {X : jX} {D : va_G} {ad : Nat → Nat} {cy : Nat → ClassId} (C : jC X (jMain D ad cy) RX12 cX12_manyQuarrels (some .int) 3 4 91) {z : Int32 × jS} (Q : jRet X (jMain D ad cy) (some (.int z.1), z.2)) {k32 : Int32 → jS → Option (Int32 × jS)} (hk32 : ∀ (x1 : Int32) (S : jS), k32 x1 S = some z → jJ X (jMain D ad cy) 32 [(1, .int x1)] [] S) (x1 : Int32) (x2 : Int32) (S : jS) (hE : lp_X12_manyQuarrels_4  k32 x1 x2 S = some z) : jJ X (jMain D ad cy) 4 [(0, .ref (ad 41)), (1, .int x1), (2, .int x2)] [] S :=
  jloop_P (α := Int32 × Int32 × jS) (B := (fun g q => f_X12_manyQuarrels_4  (fun x1 x2 S => g (x1, x2, S)) k32 q.1 q.2.1 q.2.2)) (P := fun q => jJ X (jMain D ad cy) 4 [(0, .ref (ad 41)), (1, .int q.1), (2, .int q.2.1)] [] q.2.2) (fun g q hg h => p_X12_manyQuarrels_4 C Q (g := fun x1 x2 S => g (x1, x2, S)) (fun x1 x2 S h => hg (x1, x2, S) h) hk32 q.1 q.2.1 q.2.2 h) jN (x1, x2, S) hE
set_option maxRecDepth 100000 in
theorem p_X12_manyQuarrels_32 {X : jX} {D : va_G} {ad : Nat → Nat} {cy : Nat → ClassId} (C : jC X (jMain D ad cy) RX12 cX12_manyQuarrels (some .int) 3 4 91) {z : Int32 × jS} (Q : jRet X (jMain D ad cy) (some (.int z.1), z.2))  (x1 : Int32) (S : jS) (hE : f_X12_manyQuarrels_32   x1 S = some z) : jJ X (jMain D ad cy) 32 [(1, .int x1)] [] S := by
  unfold f_X12_manyQuarrels_32 at hE
  refine j_iload_n C dX12_manyQuarrels_32 0 rfl ?_
  exact j_iret C Q dX12_manyQuarrels_33 hE
set_option maxRecDepth 100000 in
theorem p_X12_manyQuarrels_e {X : jX} {D : va_G} {ad : Nat → Nat} {cy : Nat → ClassId} (C : jC X (jMain D ad cy) RX12 cX12_manyQuarrels (some .int) 3 4 91) {z : Int32 × jS} (Q : jRet X (jMain D ad cy) (some (.int z.1), z.2))   (S : jS) (hE : f_X12_manyQuarrels_e    S = some z) : jJ X (jMain D ad cy) 0 [(0, .ref (ad 41))] [] S := by
  unfold f_X12_manyQuarrels_e at hE
  refine j_iconst (v := 0) C dX12_manyQuarrels_0 jc_ic_0 ?_
  refine j_istore_n (i := 1) (lv' := [(1, .int 0), (0, .ref (ad 41))]) C dX12_manyQuarrels_1 rfl (by decide) rfl ?_
  refine j_iconst (v := 0) C dX12_manyQuarrels_2 jc_ic_0 ?_
  refine j_istore_n (i := 2) (lv' := [(2, .int 0), (1, .int 0), (0, .ref (ad 41))]) C dX12_manyQuarrels_3 rfl (by decide) rfl ?_
  refine j_sub [2, 1, 0] rfl ?_
  exact q_X12_manyQuarrels_4 C Q (p_X12_manyQuarrels_32 C Q ) 0 0 S hE
theorem c_X12_manyQuarrels {l : Launch} {D : va_G} {ad : Nat → Nat} {cy : Nat → ClassId} (hO : jOk (jMain D ad cy))  (S : jS) {z : Int32 × jS} (hz : f_X12_manyQuarrels  S = some z) : Met l yX12_manyQuarrels (.code yX12_manyQuarrels cX12_manyQuarrels 3 (some .int) :: jT) { frames := 4, cells := 0, slots := 0, locals := 91 } (va_Pc [.ref (ad 41)] (jInv (jMain D ad cy) S)) (jQ (jMain D ad cy) (some (.int z.1), z.2)) 0 0 (yA (jMain D ad cy)) :=
  jMet hO (by decide +kernel) rfl (Nat.le_of_ble_eq_true rfl) (fun X _ C Q => p_X12_manyQuarrels_e C Q  S hz)
theorem k_X12_134_X12_manyQuarrels {X : jX} {D : va_G} {ad : Nat → Nat} {cy : Nat → ClassId} {cc : ByteArray} {ret : Option FieldType} {nL fr lo pc : Nat} {lv : List (Nat × Value)} {st : List Value} {S : jS} {β : Type} {z : β} (C : jC X (jMain D ad cy) RX12 cc ret nL fr lo)  {E : Int32 → jS → Option β} (d : decode cc pc = .ok (.invokevirtual 134, 3)) (hE : jcl (f_X12_manyQuarrels  S) E = some z) (hfr : 5 ≤ fr) (hlo : 113 ≤ lo) (hst : (st.map fun v => v.category).sum ≤ 8) (K : ∀ (v : Int32) (S1 : jS), E v S1 = some z → jJ X (jMain D ad cy) (pc + 3) lv (.int v :: st) S1) : jJ X (jMain D ad cy) pc lv (.ref (ad 41) :: st) S := by
  obtain ⟨v, h1, h2⟩ := jcl_some hE
  exact j_callV (k := 41) (ci := 12) (T := TX12) (N := 25) (n := 0) (As := []) C (c_X12_manyQuarrels C.2.2.2.2.2.2.1  S h1) tw_1062 tw_1064 tw_44 tw_81 tw_1065 (by decide +kernel) rfl (by decide : 41 < 56) rfl rfl hfr hlo hst rfl d (K _ _ h2)
set_option maxRecDepth 100000 in
theorem p_X12_quarrels_47 {X : jX} {D : va_G} {ad : Nat → Nat} {cy : Nat → ClassId} (C : jC X (jMain D ad cy) RX12 cX12_quarrels (some .int) 4 5 113) {z : Int32 × jS} (Q : jRet X (jMain D ad cy) (some (.int z.1), z.2)) {g : Int32 → Int32 → Int32 → jS → Option (Int32 × jS)} (hg : ∀ (x1 : Int32) (x2 : Int32) (x3 : Int32) (S : jS), g x1 x2 x3 S = some z → jJ X (jMain D ad cy) 25 [(0, .ref (ad 41)), (1, .int x1), (2, .int x2), (3, .int x3)] [] S) {k55 : Int32 → Int32 → jS → Option (Int32 × jS)} (hk55 : ∀ (x1 : Int32) (x2 : Int32) (S : jS), k55 x1 x2 S = some z → jJ X (jMain D ad cy) 55 [(0, .ref (ad 41)), (1, .int x1), (2, .int x2)] [] S) (a0 : Int32) (a1 : Int32) (x1 : Int32) (x3 : Int32) (S : jS) (hE : f_X12_quarrels_47  g k55 a0 a1 x1 x3 S = some z) : jJ X (jMain D ad cy) 47 [(0, .ref (ad 41)), (1, .int x1), (3, .int x3)] [.int a0, .int a1] S := by
  unfold f_X12_quarrels_47 at hE
  refine j_ior C dX12_quarrels_47 ?_
  refine j_istore_n (i := 2) (lv' := [(2, .int (a1 ||| a0)), (0, .ref (ad 41)), (1, .int x1), (3, .int x3)]) C dX12_quarrels_48 rfl (by decide) rfl ?_
  refine j_iinc (v := (x3 + 1)) (lv' := [(3, .int (x3 + 1)), (2, .int (a1 ||| a0)), (0, .ref (ad 41)), (1, .int x1)]) C dX12_quarrels_49 3 rfl (congrArg (fun w => x3 + w) jc_ic_1) (by decide) rfl ?_
  refine j_goto (tgt := 25) C dX12_quarrels_52 rfl ?_
  refine j_sub [2, 3, 1, 0] rfl ?_
  exact hg x1 (a1 ||| a0) (x3 + 1) S hE
set_option maxRecDepth 100000 in
theorem p_X12_quarrels_25 {X : jX} {D : va_G} {ad : Nat → Nat} {cy : Nat → ClassId} (C : jC X (jMain D ad cy) RX12 cX12_quarrels (some .int) 4 5 113) {z : Int32 × jS} (Q : jRet X (jMain D ad cy) (some (.int z.1), z.2)) {g : Int32 → Int32 → Int32 → jS → Option (Int32 × jS)} (hg : ∀ (x1 : Int32) (x2 : Int32) (x3 : Int32) (S : jS), g x1 x2 x3 S = some z → jJ X (jMain D ad cy) 25 [(0, .ref (ad 41)), (1, .int x1), (2, .int x2), (3, .int x3)] [] S) {k55 : Int32 → Int32 → jS → Option (Int32 × jS)} (hk55 : ∀ (x1 : Int32) (x2 : Int32) (S : jS), k55 x1 x2 S = some z → jJ X (jMain D ad cy) 55 [(0, .ref (ad 41)), (1, .int x1), (2, .int x2)] [] S) (x1 : Int32) (x2 : Int32) (x3 : Int32) (S : jS) (hE : f_X12_quarrels_25  g k55 x1 x2 x3 S = some z) : jJ X (jMain D ad cy) 25 [(0, .ref (ad 41)), (1, .int x1), (2, .int x2), (3, .int x3)] [] S := by
  unfold f_X12_quarrels_25 at hE
  refine j_iload_n C dX12_quarrels_25 3 rfl ?_
  refine j_bipush (v := 8) C dX12_quarrels_26 jc_bp_8 ?_
  refine j_icmp_ge (tgt := 55) C dX12_quarrels_28 rfl hE (fun hE => ?_) (fun hE => ?_)
  · refine j_sub [0, 1, 2] rfl ?_
    exact hk55 x1 x2 S hE
  · refine j_iload_n C dX12_quarrels_31 2 rfl ?_
    refine j_aload_n C dX12_quarrels_32 0 rfl ?_
    refine j_iload_n C dX12_quarrels_33 3 rfl ?_
    refine k_X12_128_X12_quarrelsIn C dX12_quarrels_34 hE (Nat.le_of_ble_eq_true rfl) (Nat.le_of_ble_eq_true rfl) (Nat.le_of_ble_eq_true rfl) (fun v2 S1 hE => ?_)
    refine j_if_eq (tgt := 46) C dX12_quarrels_37 rfl hE (fun hE => ?_) (fun hE => ?_)
    · refine j_iconst (v := 0) C dX12_quarrels_46 jc_ic_0 ?_
      refine j_sub [0, 1, 3] rfl ?_
      exact p_X12_quarrels_47 C Q hg hk55 0 x2 x1 x3 S1 hE
    · refine j_iconst (v := 1) C dX12_quarrels_40 jc_ic_1 ?_
      refine j_iload_n C dX12_quarrels_41 3 rfl ?_
      refine j_ishl C dX12_quarrels_42 ?_
      refine j_goto (tgt := 47) C dX12_quarrels_43 rfl ?_
      refine j_sub [0, 1, 3] rfl ?_
      exact p_X12_quarrels_47 C Q hg hk55 (1 <<< (x3 &&& 31)) x2 x1 x3 S1 hE
theorem q_X12_quarrels_25 {X : jX} {D : va_G} {ad : Nat → Nat} {cy : Nat → ClassId} (C : jC X (jMain D ad cy) RX12 cX12_quarrels (some .int) 4 5 113) {z : Int32 × jS} (Q : jRet X (jMain D ad cy) (some (.int z.1), z.2)) {k55 : Int32 → Int32 → jS → Option (Int32 × jS)} (hk55 : ∀ (x1 : Int32) (x2 : Int32) (S : jS), k55 x1 x2 S = some z → jJ X (jMain D ad cy) 55 [(0, .ref (ad 41)), (1, .int x1), (2, .int x2)] [] S) (x1 : Int32) (x2 : Int32) (x3 : Int32) (S : jS) (hE : lp_X12_quarrels_25  k55 x1 x2 x3 S = some z) : jJ X (jMain D ad cy) 25 [(0, .ref (ad 41)), (1, .int x1), (2, .int x2), (3, .int x3)] [] S :=
  jloop_P (α := Int32 × Int32 × Int32 × jS) (B := (fun g q => f_X12_quarrels_25  (fun x1 x2 x3 S => g (x1, x2, x3, S)) k55 q.1 q.2.1 q.2.2.1 q.2.2.2)) (P := fun q => jJ X (jMain D ad cy) 25 [(0, .ref (ad 41)), (1, .int q.1), (2, .int q.2.1), (3, .int q.2.2.1)] [] q.2.2.2) (fun g q hg h => p_X12_quarrels_25 C Q (g := fun x1 x2 x3 S => g (x1, x2, x3, S)) (fun x1 x2 x3 S h => hg (x1, x2, x3, S) h) hk55 q.1 q.2.1 q.2.2.1 q.2.2.2 h) jN (x1, x2, x3, S) hE
set_option maxRecDepth 100000 in
theorem p_X12_quarrels_67 {X : jX} {D : va_G} {ad : Nat → Nat} {cy : Nat → ClassId} (C : jC X (jMain D ad cy) RX12 cX12_quarrels (some .int) 4 5 113) {z : Int32 × jS} (Q : jRet X (jMain D ad cy) (some (.int z.1), z.2))  (a0 : Int32) (S : jS) (hE : f_X12_quarrels_67   a0 S = some z) : jJ X (jMain D ad cy) 67 [] [.int a0] S := by
  unfold f_X12_quarrels_67 at hE
  exact j_iret C Q dX12_quarrels_67 hE
set_option maxRecDepth 100000 in
theorem p_X12_quarrels_55 {X : jX} {D : va_G} {ad : Nat → Nat} {cy : Nat → ClassId} (C : jC X (jMain D ad cy) RX12 cX12_quarrels (some .int) 4 5 113) {z : Int32 × jS} (Q : jRet X (jMain D ad cy) (some (.int z.1), z.2))  (x1 : Int32) (x2 : Int32) (S : jS) (hE : f_X12_quarrels_55   x1 x2 S = some z) : jJ X (jMain D ad cy) 55 [(0, .ref (ad 41)), (1, .int x1), (2, .int x2)] [] S := by
  unfold f_X12_quarrels_55 at hE
  refine j_iload_n C dX12_quarrels_55 1 rfl ?_
  refine j_if_ne (tgt := 63) C dX12_quarrels_56 rfl hE (fun hE => ?_) (fun hE => ?_)
  · refine j_aload_n C dX12_quarrels_63 0 rfl ?_
    refine k_X12_134_X12_manyQuarrels C dX12_quarrels_64 hE (Nat.le_of_ble_eq_true rfl) (Nat.le_of_ble_eq_true rfl) (Nat.le_of_ble_eq_true rfl) (fun v2 S1 hE => ?_)
    refine j_sub [] rfl ?_
    exact p_X12_quarrels_67 C Q  v2 S1 hE
  · refine j_iload_n C dX12_quarrels_59 2 rfl ?_
    refine j_goto (tgt := 67) C dX12_quarrels_60 rfl ?_
    refine j_sub [] rfl ?_
    exact p_X12_quarrels_67 C Q  x2 S hE
set_option maxRecDepth 100000 in
theorem p_X12_quarrels_e {X : jX} {D : va_G} {ad : Nat → Nat} {cy : Nat → ClassId} (C : jC X (jMain D ad cy) RX12 cX12_quarrels (some .int) 4 5 113) {z : Int32 × jS} (Q : jRet X (jMain D ad cy) (some (.int z.1), z.2))  (x1 : Int32) (S : jS) (hE : f_X12_quarrels_e   x1 S = some z) : jJ X (jMain D ad cy) 0 [(0, .ref (ad 41)), (1, .int x1)] [] S := by
  unfold f_X12_quarrels_e at hE
  refine j_iload_n C dX12_quarrels_0 1 rfl ?_
  refine j_i2l C dX12_quarrels_1 ?_
  refine j_lconst (v := 0) C dX12_quarrels_2 jc_lc_0 ?_
  refine j_lconst (v := 1) C dX12_quarrels_3 jc_lc_1 ?_
  refine k_X12_59_X12_in C dX12_quarrels_4 hE (Nat.le_of_ble_eq_true rfl) (Nat.le_of_ble_eq_true rfl) (Nat.le_of_ble_eq_true rfl) (fun v2 S1 hE => ?_)
  refine j_if_ne (tgt := 17) C dX12_quarrels_7 rfl hE (fun hE => ?_) (fun hE => ?_)
  · refine j_aload_n C dX12_quarrels_17 0 rfl ?_
    refine k_X12_125_X12_layHand C dX12_quarrels_18 hE (Nat.le_of_ble_eq_true rfl) (Nat.le_of_ble_eq_true rfl) (Nat.le_of_ble_eq_true rfl) (fun S3 hE => ?_)
    refine j_iconst (v := 0) C dX12_quarrels_21 jc_ic_0 ?_
    refine j_istore_n (i := 2) (lv' := [(2, .int 0), (0, .ref (ad 41)), (1, .int x1)]) C dX12_quarrels_22 rfl (by decide) rfl ?_
    refine j_iconst (v := 0) C dX12_quarrels_23 jc_ic_0 ?_
    refine j_istore_n (i := 3) (lv' := [(3, .int 0), (2, .int 0), (0, .ref (ad 41)), (1, .int x1)]) C dX12_quarrels_24 rfl (by decide) rfl ?_
    refine j_sub [2, 3, 1, 0] rfl ?_
    exact q_X12_quarrels_25 C Q (p_X12_quarrels_55 C Q ) x1 0 0 S3 hE
  · refine j_aload_n C dX12_quarrels_10 0 rfl ?_
    refine j_bipush (v := (-2)) C dX12_quarrels_11 jc_bp_m2 ?_
    refine k_X12_87_X12_bad C dX12_quarrels_13 hE (Nat.le_of_ble_eq_true rfl) (Nat.le_of_ble_eq_true rfl) (Nat.le_of_ble_eq_true rfl) (fun v5 S4 hE => ?_)
    exact j_iret C Q dX12_quarrels_16 hE
theorem c_X12_quarrels {l : Launch} {D : va_G} {ad : Nat → Nat} {cy : Nat → ClassId} (hO : jOk (jMain D ad cy)) (x1 : Int32) (S : jS) {z : Int32 × jS} (hz : f_X12_quarrels x1 S = some z) : Met l yX12_quarrels (.code yX12_quarrels cX12_quarrels 4 (some .int) :: jT) { frames := 5, cells := 0, slots := 0, locals := 113 } (va_Pc [.ref (ad 41), .int x1] (jInv (jMain D ad cy) S)) (jQ (jMain D ad cy) (some (.int z.1), z.2)) 0 0 (yA (jMain D ad cy)) :=
  jMet hO (by decide +kernel) rfl (Nat.le_of_ble_eq_true rfl) (fun X _ C Q => p_X12_quarrels_e C Q x1 S hz)
set_option maxRecDepth 100000 in
theorem p_X11_isBit_14 {X : jX} {D : va_G} {ad : Nat → Nat} {cy : Nat → ClassId} (C : jC X (jMain D ad cy) RX11 cX11_isBit (some .boolean) 1 0 0) {z : Int32 × jS} (Q : jRet X (jMain D ad cy) (some (.int z.1), z.2))  (a0 : Int32) (S : jS) (hE : f_X11_isBit_14   a0 S = some z) : jJ X (jMain D ad cy) 14 [] [.int a0] S := by
  unfold f_X11_isBit_14 at hE
  exact j_zret C Q dX11_isBit_14 hE
set_option maxRecDepth 100000 in
theorem p_X11_isBit_9 {X : jX} {D : va_G} {ad : Nat → Nat} {cy : Nat → ClassId} (C : jC X (jMain D ad cy) RX11 cX11_isBit (some .boolean) 1 0 0) {z : Int32 × jS} (Q : jRet X (jMain D ad cy) (some (.int z.1), z.2))   (S : jS) (hE : f_X11_isBit_9    S = some z) : jJ X (jMain D ad cy) 9 [] [] S := by
  unfold f_X11_isBit_9 at hE
  refine j_iconst (v := 1) C dX11_isBit_9 jc_ic_1 ?_
  refine j_goto (tgt := 14) C dX11_isBit_10 rfl ?_
  exact p_X11_isBit_14 C Q  1 S hE
set_option maxRecDepth 100000 in
theorem p_X11_isBit_e {X : jX} {D : va_G} {ad : Nat → Nat} {cy : Nat → ClassId} (C : jC X (jMain D ad cy) RX11 cX11_isBit (some .boolean) 1 0 0) {z : Int32 × jS} (Q : jRet X (jMain D ad cy) (some (.int z.1), z.2))  (x0 : Int32) (S : jS) (hE : f_X11_isBit_e   x0 S = some z) : jJ X (jMain D ad cy) 0 [(0, .int x0)] [] S := by
  unfold f_X11_isBit_e at hE
  refine j_iload_n C dX11_isBit_0 0 rfl ?_
  refine j_if_eq (tgt := 9) C dX11_isBit_1 rfl hE (fun hE => ?_) (fun hE => ?_)
  · refine j_sub [] rfl ?_
    exact p_X11_isBit_9 C Q   S hE
  · refine j_iload_n C dX11_isBit_4 0 rfl ?_
    refine j_iconst (v := 1) C dX11_isBit_5 jc_ic_1 ?_
    refine j_icmp_ne (tgt := 13) C dX11_isBit_6 rfl hE (fun hE => ?_) (fun hE => ?_)
    · refine j_iconst (v := 0) C dX11_isBit_13 jc_ic_0 ?_
      refine j_sub [] rfl ?_
      exact p_X11_isBit_14 C Q  0 S hE
    · refine j_sub [] rfl ?_
      exact p_X11_isBit_9 C Q   S hE
theorem c_X11_isBit {l : Launch} {D : va_G} {ad : Nat → Nat} {cy : Nat → ClassId} (hO : jOk (jMain D ad cy)) (x0 : Int32) (S : jS) {z : Int32 × jS} (hz : f_X11_isBit x0 S = some z) : Met l yX11_isBit (.code yX11_isBit cX11_isBit 1 (some .boolean) :: jT) { frames := 0, cells := 0, slots := 0, locals := 0 } (va_Pc [.int x0] (jInv (jMain D ad cy) S)) (jQ (jMain D ad cy) (some (.int z.1), z.2)) 0 0 (yA (jMain D ad cy)) :=
  jMet hO (by decide +kernel) rfl (Nat.le_of_ble_eq_true rfl) (fun X _ C Q => p_X11_isBit_e C Q x0 S hz)
theorem k_X11_160_X11_isBit {X : jX} {D : va_G} {ad : Nat → Nat} {cy : Nat → ClassId} {cc : ByteArray} {ret : Option FieldType} {nL fr lo pc : Nat} {lv : List (Nat × Value)} {st : List Value} {S : jS} {β : Type} {z : β} (C : jC X (jMain D ad cy) RX11 cc ret nL fr lo) {a0 : Int32} {E : Int32 → jS → Option β} (d : decode cc pc = .ok (.invokestatic 160, 3)) (hE : jcl (f_X11_isBit a0 S) E = some z) (hfr : 1 ≤ fr) (hlo : 20 ≤ lo) (hst : (st.map fun v => v.category).sum ≤ 8) (K : ∀ (v : Int32) (S1 : jS), E v S1 = some z → jJ X (jMain D ad cy) (pc + 3) lv (.int v :: st) S1) : jJ X (jMain D ad cy) pc lv (.int a0 :: st) S := by
  obtain ⟨v, h1, h2⟩ := jcl_some hE
  exact j_callS (n := 1) (As := [.int a0]) C (c_X11_isBit C.2.2.2.2.2.2.1 a0 S h1) tw_597 tw_598 tw_69 tw_599 (by decide +kernel) rfl hfr hlo hst rfl d (K _ _ h2)
set_option maxRecDepth 100000 in
theorem p_J6_bitCount_0f7a4_e {X : jX} {D : va_G} {ad : Nat → Nat} {cy : Nat → ClassId} (C : jC X (jMain D ad cy) RJ6 cJ6_bitCount_0f7a4 (some .int) 1 0 0) {z : Int32 × jS} (Q : jRet X (jMain D ad cy) (some (.int z.1), z.2))  (x0 : Int32) (S : jS) (hE : f_J6_bitCount_0f7a4_e   x0 S = some z) : jJ X (jMain D ad cy) 0 [(0, .int x0)] [] S := by
  unfold f_J6_bitCount_0f7a4_e at hE
  refine j_iload_n C dJ6_bitCount_0f7a4_0 0 rfl ?_
  refine j_iload_n C dJ6_bitCount_0f7a4_1 0 rfl ?_
  refine j_iconst (v := 1) C dJ6_bitCount_0f7a4_2 jc_ic_1 ?_
  refine j_iushr C dJ6_bitCount_0f7a4_3 ?_
  refine j_ldcw (v := 1431655765) C dJ6_bitCount_0f7a4_4 tw_603 ?_
  refine j_iand C dJ6_bitCount_0f7a4_7 ?_
  refine j_isub C dJ6_bitCount_0f7a4_8 ?_
  refine j_istore_n (i := 0) (lv' := [(0, .int (x0 - ((x0.toUInt32 >>> ((1 : Int32).toUInt32 &&& Int32.toUInt32 31)).toInt32 &&& 1431655765)))]) C dJ6_bitCount_0f7a4_9 rfl (by decide) rfl ?_
  refine j_iload_n C dJ6_bitCount_0f7a4_10 0 rfl ?_
  refine j_ldcw (v := 858993459) C dJ6_bitCount_0f7a4_11 tw_604 ?_
  refine j_iand C dJ6_bitCount_0f7a4_14 ?_
  refine j_iload_n C dJ6_bitCount_0f7a4_15 0 rfl ?_
  refine j_iconst (v := 2) C dJ6_bitCount_0f7a4_16 jc_ic_2 ?_
  refine j_iushr C dJ6_bitCount_0f7a4_17 ?_
  refine j_ldcw (v := 858993459) C dJ6_bitCount_0f7a4_18 tw_604 ?_
  refine j_iand C dJ6_bitCount_0f7a4_21 ?_
  refine j_iadd C dJ6_bitCount_0f7a4_22 ?_
  refine j_istore_n (i := 0) (lv' := [(0, .int (((x0 - ((x0.toUInt32 >>> ((1 : Int32).toUInt32 &&& Int32.toUInt32 31)).toInt32 &&& 1431655765)) &&& 858993459) + ((((x0 - ((x0.toUInt32 >>> ((1 : Int32).toUInt32 &&& Int32.toUInt32 31)).toInt32 &&& 1431655765)) : Int32).toUInt32 >>> ((2 : Int32).toUInt32 &&& Int32.toUInt32 31)).toInt32 &&& 858993459)))]) C dJ6_bitCount_0f7a4_23 rfl (by decide) rfl ?_
  refine j_iload_n C dJ6_bitCount_0f7a4_24 0 rfl ?_
  refine j_iload_n C dJ6_bitCount_0f7a4_25 0 rfl ?_
  refine j_iconst (v := 4) C dJ6_bitCount_0f7a4_26 jc_ic_4 ?_
  refine j_iushr C dJ6_bitCount_0f7a4_27 ?_
  refine j_iadd C dJ6_bitCount_0f7a4_28 ?_
  refine j_ldcw (v := 252645135) C dJ6_bitCount_0f7a4_29 tw_605 ?_
  refine j_iand C dJ6_bitCount_0f7a4_32 ?_
  refine j_istore_n (i := 0) (lv' := [(0, .int (((((x0 - ((x0.toUInt32 >>> ((1 : Int32).toUInt32 &&& Int32.toUInt32 31)).toInt32 &&& 1431655765)) &&& 858993459) + ((((x0 - ((x0.toUInt32 >>> ((1 : Int32).toUInt32 &&& Int32.toUInt32 31)).toInt32 &&& 1431655765)) : Int32).toUInt32 >>> ((2 : Int32).toUInt32 &&& Int32.toUInt32 31)).toInt32 &&& 858993459)) + (((((x0 - ((x0.toUInt32 >>> ((1 : Int32).toUInt32 &&& Int32.toUInt32 31)).toInt32 &&& 1431655765)) &&& 858993459) + ((((x0 - ((x0.toUInt32 >>> ((1 : Int32).toUInt32 &&& Int32.toUInt32 31)).toInt32 &&& 1431655765)) : Int32).toUInt32 >>> ((2 : Int32).toUInt32 &&& Int32.toUInt32 31)).toInt32 &&& 858993459)) : Int32).toUInt32 >>> ((4 : Int32).toUInt32 &&& Int32.toUInt32 31)).toInt32) &&& 252645135))]) C dJ6_bitCount_0f7a4_33 rfl (by decide) rfl ?_
  refine j_iload_n C dJ6_bitCount_0f7a4_34 0 rfl ?_
  refine j_iload_n C dJ6_bitCount_0f7a4_35 0 rfl ?_
  refine j_bipush (v := 8) C dJ6_bitCount_0f7a4_36 jc_bp_8 ?_
  refine j_iushr C dJ6_bitCount_0f7a4_38 ?_
  refine j_iadd C dJ6_bitCount_0f7a4_39 ?_
  refine j_istore_n (i := 0) (lv' := [(0, .int ((((((x0 - ((x0.toUInt32 >>> ((1 : Int32).toUInt32 &&& Int32.toUInt32 31)).toInt32 &&& 1431655765)) &&& 858993459) + ((((x0 - ((x0.toUInt32 >>> ((1 : Int32).toUInt32 &&& Int32.toUInt32 31)).toInt32 &&& 1431655765)) : Int32).toUInt32 >>> ((2 : Int32).toUInt32 &&& Int32.toUInt32 31)).toInt32 &&& 858993459)) + (((((x0 - ((x0.toUInt32 >>> ((1 : Int32).toUInt32 &&& Int32.toUInt32 31)).toInt32 &&& 1431655765)) &&& 858993459) + ((((x0 - ((x0.toUInt32 >>> ((1 : Int32).toUInt32 &&& Int32.toUInt32 31)).toInt32 &&& 1431655765)) : Int32).toUInt32 >>> ((2 : Int32).toUInt32 &&& Int32.toUInt32 31)).toInt32 &&& 858993459)) : Int32).toUInt32 >>> ((4 : Int32).toUInt32 &&& Int32.toUInt32 31)).toInt32) &&& 252645135) + (((((((x0 - ((x0.toUInt32 >>> ((1 : Int32).toUInt32 &&& Int32.toUInt32 31)).toInt32 &&& 1431655765)) &&& 858993459) + ((((x0 - ((x0.toUInt32 >>> ((1 : Int32).toUInt32 &&& Int32.toUInt32 31)).toInt32 &&& 1431655765)) : Int32).toUInt32 >>> ((2 : Int32).toUInt32 &&& Int32.toUInt32 31)).toInt32 &&& 858993459)) + (((((x0 - ((x0.toUInt32 >>> ((1 : Int32).toUInt32 &&& Int32.toUInt32 31)).toInt32 &&& 1431655765)) &&& 858993459) + ((((x0 - ((x0.toUInt32 >>> ((1 : Int32).toUInt32 &&& Int32.toUInt32 31)).toInt32 &&& 1431655765)) : Int32).toUInt32 >>> ((2 : Int32).toUInt32 &&& Int32.toUInt32 31)).toInt32 &&& 858993459)) : Int32).toUInt32 >>> ((4 : Int32).toUInt32 &&& Int32.toUInt32 31)).toInt32) &&& 252645135) : Int32).toUInt32 >>> ((8 : Int32).toUInt32 &&& Int32.toUInt32 31)).toInt32))]) C dJ6_bitCount_0f7a4_40 rfl (by decide) rfl ?_
  refine j_iload_n C dJ6_bitCount_0f7a4_41 0 rfl ?_
  refine j_iload_n C dJ6_bitCount_0f7a4_42 0 rfl ?_
  refine j_bipush (v := 16) C dJ6_bitCount_0f7a4_43 jc_bp_16 ?_
  refine j_iushr C dJ6_bitCount_0f7a4_45 ?_
  refine j_iadd C dJ6_bitCount_0f7a4_46 ?_
  refine j_istore_n (i := 0) (lv' := [(0, .int (((((((x0 - ((x0.toUInt32 >>> ((1 : Int32).toUInt32 &&& Int32.toUInt32 31)).toInt32 &&& 1431655765)) &&& 858993459) + ((((x0 - ((x0.toUInt32 >>> ((1 : Int32).toUInt32 &&& Int32.toUInt32 31)).toInt32 &&& 1431655765)) : Int32).toUInt32 >>> ((2 : Int32).toUInt32 &&& Int32.toUInt32 31)).toInt32 &&& 858993459)) + (((((x0 - ((x0.toUInt32 >>> ((1 : Int32).toUInt32 &&& Int32.toUInt32 31)).toInt32 &&& 1431655765)) &&& 858993459) + ((((x0 - ((x0.toUInt32 >>> ((1 : Int32).toUInt32 &&& Int32.toUInt32 31)).toInt32 &&& 1431655765)) : Int32).toUInt32 >>> ((2 : Int32).toUInt32 &&& Int32.toUInt32 31)).toInt32 &&& 858993459)) : Int32).toUInt32 >>> ((4 : Int32).toUInt32 &&& Int32.toUInt32 31)).toInt32) &&& 252645135) + (((((((x0 - ((x0.toUInt32 >>> ((1 : Int32).toUInt32 &&& Int32.toUInt32 31)).toInt32 &&& 1431655765)) &&& 858993459) + ((((x0 - ((x0.toUInt32 >>> ((1 : Int32).toUInt32 &&& Int32.toUInt32 31)).toInt32 &&& 1431655765)) : Int32).toUInt32 >>> ((2 : Int32).toUInt32 &&& Int32.toUInt32 31)).toInt32 &&& 858993459)) + (((((x0 - ((x0.toUInt32 >>> ((1 : Int32).toUInt32 &&& Int32.toUInt32 31)).toInt32 &&& 1431655765)) &&& 858993459) + ((((x0 - ((x0.toUInt32 >>> ((1 : Int32).toUInt32 &&& Int32.toUInt32 31)).toInt32 &&& 1431655765)) : Int32).toUInt32 >>> ((2 : Int32).toUInt32 &&& Int32.toUInt32 31)).toInt32 &&& 858993459)) : Int32).toUInt32 >>> ((4 : Int32).toUInt32 &&& Int32.toUInt32 31)).toInt32) &&& 252645135) : Int32).toUInt32 >>> ((8 : Int32).toUInt32 &&& Int32.toUInt32 31)).toInt32) + ((((((((x0 - ((x0.toUInt32 >>> ((1 : Int32).toUInt32 &&& Int32.toUInt32 31)).toInt32 &&& 1431655765)) &&& 858993459) + ((((x0 - ((x0.toUInt32 >>> ((1 : Int32).toUInt32 &&& Int32.toUInt32 31)).toInt32 &&& 1431655765)) : Int32).toUInt32 >>> ((2 : Int32).toUInt32 &&& Int32.toUInt32 31)).toInt32 &&& 858993459)) + (((((x0 - ((x0.toUInt32 >>> ((1 : Int32).toUInt32 &&& Int32.toUInt32 31)).toInt32 &&& 1431655765)) &&& 858993459) + ((((x0 - ((x0.toUInt32 >>> ((1 : Int32).toUInt32 &&& Int32.toUInt32 31)).toInt32 &&& 1431655765)) : Int32).toUInt32 >>> ((2 : Int32).toUInt32 &&& Int32.toUInt32 31)).toInt32 &&& 858993459)) : Int32).toUInt32 >>> ((4 : Int32).toUInt32 &&& Int32.toUInt32 31)).toInt32) &&& 252645135) + (((((((x0 - ((x0.toUInt32 >>> ((1 : Int32).toUInt32 &&& Int32.toUInt32 31)).toInt32 &&& 1431655765)) &&& 858993459) + ((((x0 - ((x0.toUInt32 >>> ((1 : Int32).toUInt32 &&& Int32.toUInt32 31)).toInt32 &&& 1431655765)) : Int32).toUInt32 >>> ((2 : Int32).toUInt32 &&& Int32.toUInt32 31)).toInt32 &&& 858993459)) + (((((x0 - ((x0.toUInt32 >>> ((1 : Int32).toUInt32 &&& Int32.toUInt32 31)).toInt32 &&& 1431655765)) &&& 858993459) + ((((x0 - ((x0.toUInt32 >>> ((1 : Int32).toUInt32 &&& Int32.toUInt32 31)).toInt32 &&& 1431655765)) : Int32).toUInt32 >>> ((2 : Int32).toUInt32 &&& Int32.toUInt32 31)).toInt32 &&& 858993459)) : Int32).toUInt32 >>> ((4 : Int32).toUInt32 &&& Int32.toUInt32 31)).toInt32) &&& 252645135) : Int32).toUInt32 >>> ((8 : Int32).toUInt32 &&& Int32.toUInt32 31)).toInt32) : Int32).toUInt32 >>> ((16 : Int32).toUInt32 &&& Int32.toUInt32 31)).toInt32))]) C dJ6_bitCount_0f7a4_47 rfl (by decide) rfl ?_
  refine j_iload_n C dJ6_bitCount_0f7a4_48 0 rfl ?_
  refine j_bipush (v := 63) C dJ6_bitCount_0f7a4_49 jc_bp_63 ?_
  refine j_iand C dJ6_bitCount_0f7a4_51 ?_
  exact j_iret C Q dJ6_bitCount_0f7a4_52 hE
theorem c_J6_bitCount_0f7a4 {l : Launch} {D : va_G} {ad : Nat → Nat} {cy : Nat → ClassId} (hO : jOk (jMain D ad cy)) (x0 : Int32) (S : jS) {z : Int32 × jS} (hz : f_J6_bitCount_0f7a4 x0 S = some z) : Met l yJ6_bitCount_0f7a4 (.code yJ6_bitCount_0f7a4 cJ6_bitCount_0f7a4 1 (some .int) :: jT) { frames := 0, cells := 0, slots := 0, locals := 0 } (va_Pc [.int x0] (jInv (jMain D ad cy) S)) (jQ (jMain D ad cy) (some (.int z.1), z.2)) 0 0 (yA (jMain D ad cy)) :=
  jMet hO (by decide +kernel) rfl (Nat.le_of_ble_eq_true rfl) (fun X _ C Q => p_J6_bitCount_0f7a4_e C Q x0 S hz)
theorem k_X11_163_J6_bitCount_0f7a4 {X : jX} {D : va_G} {ad : Nat → Nat} {cy : Nat → ClassId} {cc : ByteArray} {ret : Option FieldType} {nL fr lo pc : Nat} {lv : List (Nat × Value)} {st : List Value} {S : jS} {β : Type} {z : β} (C : jC X (jMain D ad cy) RX11 cc ret nL fr lo) {a0 : Int32} {E : Int32 → jS → Option β} (d : decode cc pc = .ok (.invokestatic 163, 3)) (hE : jcl (f_J6_bitCount_0f7a4 a0 S) E = some z) (hfr : 1 ≤ fr) (hlo : 20 ≤ lo) (hst : (st.map fun v => v.category).sum ≤ 8) (K : ∀ (v : Int32) (S1 : jS), E v S1 = some z → jJ X (jMain D ad cy) (pc + 3) lv (.int v :: st) S1) : jJ X (jMain D ad cy) pc lv (.int a0 :: st) S := by
  obtain ⟨v, h1, h2⟩ := jcl_some hE
  exact j_callS (n := 1) (As := [.int a0]) C (c_J6_bitCount_0f7a4 C.2.2.2.2.2.2.1 a0 S h1) tw_600 tw_601 tw_88 tw_602 (by decide +kernel) rfl hfr hlo hst rfl d (K _ _ h2)
theorem k_X4_31_J6_bitCount_0f7a4 {X : jX} {D : va_G} {ad : Nat → Nat} {cy : Nat → ClassId} {cc : ByteArray} {ret : Option FieldType} {nL fr lo pc : Nat} {lv : List (Nat × Value)} {st : List Value} {S : jS} {β : Type} {z : β} (C : jC X (jMain D ad cy) RX4 cc ret nL fr lo) {a0 : Int32} {E : Int32 → jS → Option β} (d : decode cc pc = .ok (.invokestatic 31, 3)) (hE : jcl (f_J6_bitCount_0f7a4 a0 S) E = some z) (hfr : 1 ≤ fr) (hlo : 20 ≤ lo) (hst : (st.map fun v => v.category).sum ≤ 8) (K : ∀ (v : Int32) (S1 : jS), E v S1 = some z → jJ X (jMain D ad cy) (pc + 3) lv (.int v :: st) S1) : jJ X (jMain D ad cy) pc lv (.int a0 :: st) S := by
  obtain ⟨v, h1, h2⟩ := jcl_some hE
  exact j_callS (n := 1) (As := [.int a0]) C (c_J6_bitCount_0f7a4 C.2.2.2.2.2.2.1 a0 S h1) tw_613 tw_601 tw_88 tw_602 (by decide +kernel) rfl hfr hlo hst rfl d (K _ _ h2)
set_option maxRecDepth 100000 in
theorem p_X11_quarrels_49 {X : jX} {D : va_G} {ad : Nat → Nat} {cy : Nat → ClassId} (C : jC X (jMain D ad cy) RX11 cX11_quarrels (some .int) 3 5 119) {z : Int32 × jS} (Q : jRet X (jMain D ad cy) (some (.int z.1), z.2))  (a0 : Int32) (S : jS) (hE : f_X11_quarrels_49   a0 S = some z) : jJ X (jMain D ad cy) 49 [] [.int a0] S := by
  unfold f_X11_quarrels_49 at hE
  exact j_iret C Q dX11_quarrels_49 hE
set_option maxRecDepth 100000 in
theorem p_X11_quarrels_e {X : jX} {D : va_G} {ad : Nat → Nat} {cy : Nat → ClassId} (C : jC X (jMain D ad cy) RX11 cX11_quarrels (some .int) 3 5 119) {z : Int32 × jS} (Q : jRet X (jMain D ad cy) (some (.int z.1), z.2))  (x1 : Int32) (S : jS) (hE : f_X11_quarrels_e   x1 S = some z) : jJ X (jMain D ad cy) 0 [(0, .ref (ad 0)), (1, .int x1)] [] S := by
  unfold f_X11_quarrels_e at hE
  refine j_iload_n C dX11_quarrels_0 1 rfl ?_
  refine k_X11_160_X11_isBit C dX11_quarrels_1 hE (Nat.le_of_ble_eq_true rfl) (Nat.le_of_ble_eq_true rfl) (Nat.le_of_ble_eq_true rfl) (fun v2 S1 hE => ?_)
  refine j_if_ne (tgt := 12) C dX11_quarrels_4 rfl hE (fun hE => ?_) (fun hE => ?_)
  · refine j_aload_n C dX11_quarrels_12 0 rfl ?_
    refine g_X11_21_0 C dX11_quarrels_13 ?_
    refine j_aload_n C dX11_quarrels_16 0 rfl ?_
    refine g_X11_44_0 C dX11_quarrels_17 ?_
    refine g_X11_85_21 C dX11_quarrels_20 ?_
    refine j_aload_n C dX11_quarrels_23 0 rfl ?_
    refine g_X11_44_0 C dX11_quarrels_24 ?_
    refine g_X11_96_21 C dX11_quarrels_27 ?_
    refine k_X11_146_X2_quarrelling_r22 C dX11_quarrels_30 hE (Nat.le_of_ble_eq_true rfl) (Nat.le_of_ble_eq_true rfl) (Nat.le_of_ble_eq_true rfl) (fun v4 S3 hE => ?_)
    refine j_istore_n (i := 2) (lv' := [(2, .int v4), (0, .ref (ad 0)), (1, .int x1)]) C dX11_quarrels_33 rfl (by decide) rfl ?_
    refine j_iload_n C dX11_quarrels_34 2 rfl ?_
    refine j_if_ne (tgt := 45) C dX11_quarrels_35 rfl hE (fun hE => ?_) (fun hE => ?_)
    · refine j_iload_n C dX11_quarrels_45 0 rfl ?_
      refine k_X11_163_J6_bitCount_0f7a4 C dX11_quarrels_46 hE (Nat.le_of_ble_eq_true rfl) (Nat.le_of_ble_eq_true rfl) (Nat.le_of_ble_eq_true rfl) (fun v6 S5 hE => ?_)
      refine j_sub [] rfl ?_
      exact p_X11_quarrels_49 C Q  v6 S5 hE
    · refine j_iload_n C dX11_quarrels_38 0 rfl ?_
      refine k_X11_150_X4_bothOf C dX11_quarrels_39 hE (Nat.le_of_ble_eq_true rfl) (Nat.le_of_ble_eq_true rfl) (Nat.le_of_ble_eq_true rfl) (fun v8 S7 hE => ?_)
      refine j_goto (tgt := 49) C dX11_quarrels_42 rfl ?_
      refine j_sub [] rfl ?_
      exact p_X11_quarrels_49 C Q  v8 S7 hE
  · refine j_aload_n C dX11_quarrels_7 0 rfl ?_
    refine k_X11_74_X11_refuseBad C dX11_quarrels_8 hE (Nat.le_of_ble_eq_true rfl) (Nat.le_of_ble_eq_true rfl) (Nat.le_of_ble_eq_true rfl) (fun v10 S9 hE => ?_)
    exact j_iret C Q dX11_quarrels_11 hE
theorem c_X11_quarrels {l : Launch} {D : va_G} {ad : Nat → Nat} {cy : Nat → ClassId} (hO : jOk (jMain D ad cy)) (x1 : Int32) (S : jS) {z : Int32 × jS} (hz : f_X11_quarrels x1 S = some z) : Met l yX11_quarrels (.code yX11_quarrels cX11_quarrels 3 (some .int) :: jT) { frames := 5, cells := 0, slots := 0, locals := 119 } (va_Pc [.ref (ad 0), .int x1] (jInv (jMain D ad cy) S)) (jQ (jMain D ad cy) (some (.int z.1), z.2)) 0 0 (yA (jMain D ad cy)) :=
  jMet hO (by decide +kernel) rfl (Nat.le_of_ble_eq_true rfl) (fun X _ C Q => p_X11_quarrels_e C Q x1 S hz)
set_option maxRecDepth 100000 in
theorem p_X12_away_45 {X : jX} {D : va_G} {ad : Nat → Nat} {cy : Nat → ClassId} (C : jC X (jMain D ad cy) RX12 cX12_away (some .int) 4 5 113) {z : Int32 × jS} (Q : jRet X (jMain D ad cy) (some (.int z.1), z.2)) {g : Int32 → Int32 → Int32 → jS → Option (Int32 × jS)} (hg : ∀ (x1 : Int32) (x2 : Int32) (x3 : Int32) (S : jS), g x1 x2 x3 S = some z → jJ X (jMain D ad cy) 15 [(0, .ref (ad 41)), (1, .int x1), (2, .int x2), (3, .int x3)] [] S) {k52 : Int32 → Int32 → jS → Option (Int32 × jS)} (hk52 : ∀ (x1 : Int32) (x2 : Int32) (S : jS), k52 x1 x2 S = some z → jJ X (jMain D ad cy) 52 [(0, .ref (ad 41)), (1, .int x1), (2, .int x2)] [] S) (a0 : Int32) (a1 : Int32) (x1 : Int32) (x2 : Int32) (x3 : Int32) (S : jS) (hE : f_X12_away_45  g k52 a0 a1 x1 x2 x3 S = some z) : jJ X (jMain D ad cy) 45 [(0, .ref (ad 41)), (1, .int x1), (2, .int x2), (3, .int x3)] [.int a0, .int a1, .ref (ad 47)] S := by
  unfold f_X12_away_45 at hE
  refine s_47 C dX12_away_45 hE (fun S1 hE => ?_)
  refine j_iinc (v := (x3 + 1)) (lv' := [(3, .int (x3 + 1)), (0, .ref (ad 41)), (1, .int x1), (2, .int x2)]) C dX12_away_46 3 rfl (congrArg (fun w => x3 + w) jc_ic_1) (by decide) rfl ?_
  refine j_goto (tgt := 15) C dX12_away_49 rfl ?_
  refine j_sub [1, 2, 3, 0] rfl ?_
  exact hg x1 x2 (x3 + 1) S1 hE
set_option maxRecDepth 100000 in
theorem p_X12_away_15 {X : jX} {D : va_G} {ad : Nat → Nat} {cy : Nat → ClassId} (C : jC X (jMain D ad cy) RX12 cX12_away (some .int) 4 5 113) {z : Int32 × jS} (Q : jRet X (jMain D ad cy) (some (.int z.1), z.2)) {g : Int32 → Int32 → Int32 → jS → Option (Int32 × jS)} (hg : ∀ (x1 : Int32) (x2 : Int32) (x3 : Int32) (S : jS), g x1 x2 x3 S = some z → jJ X (jMain D ad cy) 15 [(0, .ref (ad 41)), (1, .int x1), (2, .int x2), (3, .int x3)] [] S) {k52 : Int32 → Int32 → jS → Option (Int32 × jS)} (hk52 : ∀ (x1 : Int32) (x2 : Int32) (S : jS), k52 x1 x2 S = some z → jJ X (jMain D ad cy) 52 [(0, .ref (ad 41)), (1, .int x1), (2, .int x2)] [] S) (x1 : Int32) (x2 : Int32) (x3 : Int32) (S : jS) (hE : f_X12_away_15  g k52 x1 x2 x3 S = some z) : jJ X (jMain D ad cy) 15 [(0, .ref (ad 41)), (1, .int x1), (2, .int x2), (3, .int x3)] [] S := by
  unfold f_X12_away_15 at hE
  refine j_iload_n C dX12_away_15 3 rfl ?_
  refine j_bipush (v := 8) C dX12_away_16 jc_bp_8 ?_
  refine j_icmp_ge (tgt := 52) C dX12_away_18 rfl hE (fun hE => ?_) (fun hE => ?_)
  · refine j_sub [0, 1, 2] rfl ?_
    exact hk52 x1 x2 S hE
  · refine j_aload_n C dX12_away_21 0 rfl ?_
    refine g_X12_30_41 C dX12_away_22 ?_
    refine j_iload_n C dX12_away_25 3 rfl ?_
    refine j_iload_n C dX12_away_26 2 rfl ?_
    refine j_iload_n C dX12_away_27 3 rfl ?_
    refine j_ishr C dX12_away_28 ?_
    refine j_iconst (v := 1) C dX12_away_29 jc_ic_1 ?_
    refine j_iand C dX12_away_30 ?_
    refine j_iconst (v := 1) C dX12_away_31 jc_ic_1 ?_
    refine j_icmp_ne (tgt := 39) C dX12_away_32 rfl hE (fun hE => ?_) (fun hE => ?_)
    · refine j_aload_n C dX12_away_39 0 rfl ?_
      refine g_X12_7_41 C dX12_away_40 ?_
      refine j_iload_n C dX12_away_43 3 rfl ?_
      refine l_42 C dX12_away_44 hE (fun v1 hE => ?_)
      exact p_X12_away_45 C Q hg hk52 v1 x3 x1 x2 x3 S hE
    · refine j_iconst (v := 0) C dX12_away_35 jc_ic_0 ?_
      refine j_goto (tgt := 45) C dX12_away_36 rfl ?_
      exact p_X12_away_45 C Q hg hk52 0 x3 x1 x2 x3 S hE
theorem q_X12_away_15 {X : jX} {D : va_G} {ad : Nat → Nat} {cy : Nat → ClassId} (C : jC X (jMain D ad cy) RX12 cX12_away (some .int) 4 5 113) {z : Int32 × jS} (Q : jRet X (jMain D ad cy) (some (.int z.1), z.2)) {k52 : Int32 → Int32 → jS → Option (Int32 × jS)} (hk52 : ∀ (x1 : Int32) (x2 : Int32) (S : jS), k52 x1 x2 S = some z → jJ X (jMain D ad cy) 52 [(0, .ref (ad 41)), (1, .int x1), (2, .int x2)] [] S) (x1 : Int32) (x2 : Int32) (x3 : Int32) (S : jS) (hE : lp_X12_away_15  k52 x1 x2 x3 S = some z) : jJ X (jMain D ad cy) 15 [(0, .ref (ad 41)), (1, .int x1), (2, .int x2), (3, .int x3)] [] S :=
  jloop_P (α := Int32 × Int32 × Int32 × jS) (B := (fun g q => f_X12_away_15  (fun x1 x2 x3 S => g (x1, x2, x3, S)) k52 q.1 q.2.1 q.2.2.1 q.2.2.2)) (P := fun q => jJ X (jMain D ad cy) 15 [(0, .ref (ad 41)), (1, .int q.1), (2, .int q.2.1), (3, .int q.2.2.1)] [] q.2.2.2) (fun g q hg h => p_X12_away_15 C Q (g := fun x1 x2 x3 S => g (x1, x2, x3, S)) (fun x1 x2 x3 S h => hg (x1, x2, x3, S) h) hk52 q.1 q.2.1 q.2.2.1 q.2.2.2 h) jN (x1, x2, x3, S) hE
set_option maxRecDepth 100000 in
theorem p_X12_away_75 {X : jX} {D : va_G} {ad : Nat → Nat} {cy : Nat → ClassId} (C : jC X (jMain D ad cy) RX12 cX12_away (some .int) 4 5 113) {z : Int32 × jS} (Q : jRet X (jMain D ad cy) (some (.int z.1), z.2)) {g : Int32 → Int32 → jS → Option (Int32 × jS)} (hg : ∀ (x1 : Int32) (x2 : Int32) (S : jS), g x1 x2 S = some z → jJ X (jMain D ad cy) 6 [(0, .ref (ad 41)), (1, .int x1), (2, .int x2)] [] S) {k82 : Int32 → jS → Option (Int32 × jS)} (hk82 : ∀ (x1 : Int32) (S : jS), k82 x1 S = some z → jJ X (jMain D ad cy) 82 [(1, .int x1)] [] S) (a0 : Int32) (x2 : Int32) (S : jS) (hE : f_X12_away_75  g k82 a0 x2 S = some z) : jJ X (jMain D ad cy) 75 [(0, .ref (ad 41)), (2, .int x2)] [.int a0] S := by
  unfold f_X12_away_75 at hE
  refine j_istore_n (i := 1) (lv' := [(1, .int a0), (0, .ref (ad 41)), (2, .int x2)]) C dX12_away_75 rfl (by decide) rfl ?_
  refine j_iinc (v := (x2 + 1)) (lv' := [(2, .int (x2 + 1)), (1, .int a0), (0, .ref (ad 41))]) C dX12_away_76 2 rfl (congrArg (fun w => x2 + w) jc_ic_1) (by decide) rfl ?_
  refine j_goto (tgt := 6) C dX12_away_79 rfl ?_
  refine j_sub [2, 1, 0] rfl ?_
  exact hg a0 (x2 + 1) S hE
set_option maxRecDepth 100000 in
theorem p_X12_away_74 {X : jX} {D : va_G} {ad : Nat → Nat} {cy : Nat → ClassId} (C : jC X (jMain D ad cy) RX12 cX12_away (some .int) 4 5 113) {z : Int32 × jS} (Q : jRet X (jMain D ad cy) (some (.int z.1), z.2)) {g : Int32 → Int32 → jS → Option (Int32 × jS)} (hg : ∀ (x1 : Int32) (x2 : Int32) (S : jS), g x1 x2 S = some z → jJ X (jMain D ad cy) 6 [(0, .ref (ad 41)), (1, .int x1), (2, .int x2)] [] S) {k82 : Int32 → jS → Option (Int32 × jS)} (hk82 : ∀ (x1 : Int32) (S : jS), k82 x1 S = some z → jJ X (jMain D ad cy) 82 [(1, .int x1)] [] S) (x1 : Int32) (x2 : Int32) (S : jS) (hE : f_X12_away_74  g k82 x1 x2 S = some z) : jJ X (jMain D ad cy) 74 [(0, .ref (ad 41)), (1, .int x1), (2, .int x2)] [] S := by
  unfold f_X12_away_74 at hE
  refine j_iload_n C dX12_away_74 1 rfl ?_
  refine j_sub [0, 2] rfl ?_
  exact p_X12_away_75 C Q hg hk82 x1 x2 S hE
set_option maxRecDepth 100000 in
theorem p_X12_away_52 {X : jX} {D : va_G} {ad : Nat → Nat} {cy : Nat → ClassId} (C : jC X (jMain D ad cy) RX12 cX12_away (some .int) 4 5 113) {z : Int32 × jS} (Q : jRet X (jMain D ad cy) (some (.int z.1), z.2)) {g : Int32 → Int32 → jS → Option (Int32 × jS)} (hg : ∀ (x1 : Int32) (x2 : Int32) (S : jS), g x1 x2 S = some z → jJ X (jMain D ad cy) 6 [(0, .ref (ad 41)), (1, .int x1), (2, .int x2)] [] S) {k82 : Int32 → jS → Option (Int32 × jS)} (hk82 : ∀ (x1 : Int32) (S : jS), k82 x1 S = some z → jJ X (jMain D ad cy) 82 [(1, .int x1)] [] S) (x1 : Int32) (x2 : Int32) (S : jS) (hE : f_X12_away_52  g k82 x1 x2 S = some z) : jJ X (jMain D ad cy) 52 [(0, .ref (ad 41)), (1, .int x1), (2, .int x2)] [] S := by
  unfold f_X12_away_52 at hE
  refine j_iload_n C dX12_away_52 2 rfl ?_
  refine k_X12_95_X12_bits C dX12_away_53 hE (Nat.le_of_ble_eq_true rfl) (Nat.le_of_ble_eq_true rfl) (Nat.le_of_ble_eq_true rfl) (fun v2 S1 hE => ?_)
  refine j_iload_n C dX12_away_56 1 rfl ?_
  refine k_X12_95_X12_bits C dX12_away_57 hE (Nat.le_of_ble_eq_true rfl) (Nat.le_of_ble_eq_true rfl) (Nat.le_of_ble_eq_true rfl) (fun v4 S3 hE => ?_)
  refine j_icmp_ge (tgt := 74) C dX12_away_60 rfl hE (fun hE => ?_) (fun hE => ?_)
  · exact p_X12_away_74 C Q hg hk82 x1 x2 S3 hE
  · refine j_aload_n C dX12_away_63 0 rfl ?_
    refine k_X12_134_X12_manyQuarrels C dX12_away_64 hE (Nat.le_of_ble_eq_true rfl) (Nat.le_of_ble_eq_true rfl) (Nat.le_of_ble_eq_true rfl) (fun v6 S5 hE => ?_)
    refine j_if_ne (tgt := 74) C dX12_away_67 rfl hE (fun hE => ?_) (fun hE => ?_)
    · exact p_X12_away_74 C Q hg hk82 x1 x2 S5 hE
    · refine j_iload_n C dX12_away_70 2 rfl ?_
      refine j_goto (tgt := 75) C dX12_away_71 rfl ?_
      refine j_sub [0, 2] rfl ?_
      exact p_X12_away_75 C Q hg hk82 x2 x2 S5 hE
set_option maxRecDepth 100000 in
theorem p_X12_away_6 {X : jX} {D : va_G} {ad : Nat → Nat} {cy : Nat → ClassId} (C : jC X (jMain D ad cy) RX12 cX12_away (some .int) 4 5 113) {z : Int32 × jS} (Q : jRet X (jMain D ad cy) (some (.int z.1), z.2)) {g : Int32 → Int32 → jS → Option (Int32 × jS)} (hg : ∀ (x1 : Int32) (x2 : Int32) (S : jS), g x1 x2 S = some z → jJ X (jMain D ad cy) 6 [(0, .ref (ad 41)), (1, .int x1), (2, .int x2)] [] S) {k82 : Int32 → jS → Option (Int32 × jS)} (hk82 : ∀ (x1 : Int32) (S : jS), k82 x1 S = some z → jJ X (jMain D ad cy) 82 [(1, .int x1)] [] S) (x1 : Int32) (x2 : Int32) (S : jS) (hE : f_X12_away_6  g k82 x1 x2 S = some z) : jJ X (jMain D ad cy) 6 [(0, .ref (ad 41)), (1, .int x1), (2, .int x2)] [] S := by
  unfold f_X12_away_6 at hE
  refine j_iload_n C dX12_away_6 2 rfl ?_
  refine j_sipush (v := 255) C dX12_away_7 jc_sp_255 ?_
  refine j_icmp_ge (tgt := 82) C dX12_away_10 rfl hE (fun hE => ?_) (fun hE => ?_)
  · refine j_sub [1] rfl ?_
    exact hk82 x1 S hE
  · refine j_iconst (v := 0) C dX12_away_13 jc_ic_0 ?_
    refine j_istore_n (i := 3) (lv' := [(3, .int 0), (0, .ref (ad 41)), (1, .int x1), (2, .int x2)]) C dX12_away_14 rfl (by decide) rfl ?_
    refine j_sub [1, 2, 3, 0] rfl ?_
    exact q_X12_away_15 C Q (p_X12_away_52 C Q hg hk82) x1 x2 0 S hE
theorem q_X12_away_6 {X : jX} {D : va_G} {ad : Nat → Nat} {cy : Nat → ClassId} (C : jC X (jMain D ad cy) RX12 cX12_away (some .int) 4 5 113) {z : Int32 × jS} (Q : jRet X (jMain D ad cy) (some (.int z.1), z.2)) {k82 : Int32 → jS → Option (Int32 × jS)} (hk82 : ∀ (x1 : Int32) (S : jS), k82 x1 S = some z → jJ X (jMain D ad cy) 82 [(1, .int x1)] [] S) (x1 : Int32) (x2 : Int32) (S : jS) (hE : lp_X12_away_6  k82 x1 x2 S = some z) : jJ X (jMain D ad cy) 6 [(0, .ref (ad 41)), (1, .int x1), (2, .int x2)] [] S :=
  jloop_P (α := Int32 × Int32 × jS) (B := (fun g q => f_X12_away_6  (fun x1 x2 S => g (x1, x2, S)) k82 q.1 q.2.1 q.2.2)) (P := fun q => jJ X (jMain D ad cy) 6 [(0, .ref (ad 41)), (1, .int q.1), (2, .int q.2.1)] [] q.2.2) (fun g q hg h => p_X12_away_6 C Q (g := fun x1 x2 S => g (x1, x2, S)) (fun x1 x2 S h => hg (x1, x2, S) h) hk82 q.1 q.2.1 q.2.2 h) jN (x1, x2, S) hE
set_option maxRecDepth 100000 in
theorem p_X12_away_82 {X : jX} {D : va_G} {ad : Nat → Nat} {cy : Nat → ClassId} (C : jC X (jMain D ad cy) RX12 cX12_away (some .int) 4 5 113) {z : Int32 × jS} (Q : jRet X (jMain D ad cy) (some (.int z.1), z.2))  (x1 : Int32) (S : jS) (hE : f_X12_away_82   x1 S = some z) : jJ X (jMain D ad cy) 82 [(1, .int x1)] [] S := by
  unfold f_X12_away_82 at hE
  refine j_iload_n C dX12_away_82 0 rfl ?_
  exact j_iret C Q dX12_away_83 hE
set_option maxRecDepth 100000 in
theorem p_X12_away_e {X : jX} {D : va_G} {ad : Nat → Nat} {cy : Nat → ClassId} (C : jC X (jMain D ad cy) RX12 cX12_away (some .int) 4 5 113) {z : Int32 × jS} (Q : jRet X (jMain D ad cy) (some (.int z.1), z.2))   (S : jS) (hE : f_X12_away_e    S = some z) : jJ X (jMain D ad cy) 0 [(0, .ref (ad 41))] [] S := by
  unfold f_X12_away_e at hE
  refine j_sipush (v := 255) C dX12_away_0 jc_sp_255 ?_
  refine j_istore_n (i := 1) (lv' := [(1, .int 255), (0, .ref (ad 41))]) C dX12_away_3 rfl (by decide) rfl ?_
  refine j_iconst (v := 0) C dX12_away_4 jc_ic_0 ?_
  refine j_istore_n (i := 2) (lv' := [(2, .int 0), (1, .int 255), (0, .ref (ad 41))]) C dX12_away_5 rfl (by decide) rfl ?_
  refine j_sub [2, 1, 0] rfl ?_
  exact q_X12_away_6 C Q (p_X12_away_82 C Q ) 255 0 S hE
theorem c_X12_away {l : Launch} {D : va_G} {ad : Nat → Nat} {cy : Nat → ClassId} (hO : jOk (jMain D ad cy))  (S : jS) {z : Int32 × jS} (hz : f_X12_away  S = some z) : Met l yX12_away (.code yX12_away cX12_away 4 (some .int) :: jT) { frames := 5, cells := 0, slots := 0, locals := 113 } (va_Pc [.ref (ad 41)] (jInv (jMain D ad cy) S)) (jQ (jMain D ad cy) (some (.int z.1), z.2)) 0 0 (yA (jMain D ad cy)) :=
  jMet hO (by decide +kernel) rfl (Nat.le_of_ble_eq_true rfl) (fun X _ C Q => p_X12_away_e C Q  S hz)
set_option maxRecDepth 100000 in
theorem p_X4_fewestAway_48 {X : jX} {D : va_G} {ad : Nat → Nat} {cy : Nat → ClassId} (C : jC X (jMain D ad cy) RX4 cX4_fewestAway (some .int) 4 1 20) {z : Int32 × jS} (Q : jRet X (jMain D ad cy) (some (.int z.1), z.2)) {g : Int32 → Int32 → Int32 → jS → Option (Int32 × jS)} (hg : ∀ (x0 : Int32) (x1 : Int32) (x2 : Int32) (S : jS), g x0 x1 x2 S = some z → jJ X (jMain D ad cy) 6 [(0, .int x0), (1, .int x1), (2, .int x2)] [] S) {k54 : Int32 → jS → Option (Int32 × jS)} (hk54 : ∀ (x1 : Int32) (S : jS), k54 x1 S = some z → jJ X (jMain D ad cy) 54 [(1, .int x1)] [] S) (x0 : Int32) (x1 : Int32) (x2 : Int32) (S : jS) (hE : f_X4_fewestAway_48  g k54 x0 x1 x2 S = some z) : jJ X (jMain D ad cy) 48 [(0, .int x0), (1, .int x1), (2, .int x2)] [] S := by
  unfold f_X4_fewestAway_48 at hE
  refine j_iinc (v := (x2 + 1)) (lv' := [(2, .int (x2 + 1)), (0, .int x0), (1, .int x1)]) C dX4_fewestAway_48 2 rfl (congrArg (fun w => x2 + w) jc_ic_1) (by decide) rfl ?_
  refine j_goto (tgt := 6) C dX4_fewestAway_51 rfl ?_
  refine j_sub [1, 2, 0] rfl ?_
  exact hg x0 x1 (x2 + 1) S hE
set_option maxRecDepth 100000 in
theorem p_X4_fewestAway_30 {X : jX} {D : va_G} {ad : Nat → Nat} {cy : Nat → ClassId} (C : jC X (jMain D ad cy) RX4 cX4_fewestAway (some .int) 4 1 20) {z : Int32 × jS} (Q : jRet X (jMain D ad cy) (some (.int z.1), z.2)) {g : Int32 → Int32 → Int32 → jS → Option (Int32 × jS)} (hg : ∀ (x0 : Int32) (x1 : Int32) (x2 : Int32) (S : jS), g x0 x1 x2 S = some z → jJ X (jMain D ad cy) 6 [(0, .int x0), (1, .int x1), (2, .int x2)] [] S) {k54 : Int32 → jS → Option (Int32 × jS)} (hk54 : ∀ (x1 : Int32) (S : jS), k54 x1 S = some z → jJ X (jMain D ad cy) 54 [(1, .int x1)] [] S) (a0 : Int32) (x0 : Int32) (x1 : Int32) (x2 : Int32) (S : jS) (hE : f_X4_fewestAway_30  g k54 a0 x0 x1 x2 S = some z) : jJ X (jMain D ad cy) 30 [(0, .int x0), (1, .int x1), (2, .int x2)] [.int a0] S := by
  unfold f_X4_fewestAway_30 at hE
  refine j_istore_n (i := 3) (lv' := [(3, .int a0), (0, .int x0), (1, .int x1), (2, .int x2)]) C dX4_fewestAway_30 rfl (by decide) rfl ?_
  refine j_iload_n C dX4_fewestAway_31 0 rfl ?_
  refine j_if_eq (tgt := 48) C dX4_fewestAway_32 rfl hE (fun hE => ?_) (fun hE => ?_)
  · refine j_sub [1, 2, 3] rfl ?_
    exact p_X4_fewestAway_48 C Q hg hk54 x0 x1 x2 S hE
  · refine j_iload_n C dX4_fewestAway_35 3 rfl ?_
    refine k_X4_31_J6_bitCount_0f7a4 C dX4_fewestAway_36 hE (Nat.le_of_ble_eq_true rfl) (Nat.le_of_ble_eq_true rfl) (Nat.le_of_ble_eq_true rfl) (fun v2 S1 hE => ?_)
    refine j_iload_n C dX4_fewestAway_39 2 rfl ?_
    refine k_X4_31_J6_bitCount_0f7a4 C dX4_fewestAway_40 hE (Nat.le_of_ble_eq_true rfl) (Nat.le_of_ble_eq_true rfl) (Nat.le_of_ble_eq_true rfl) (fun v4 S3 hE => ?_)
    refine j_icmp_ge (tgt := 48) C dX4_fewestAway_43 rfl hE (fun hE => ?_) (fun hE => ?_)
    · refine j_sub [1, 2, 3] rfl ?_
      exact p_X4_fewestAway_48 C Q hg hk54 x0 x1 x2 S3 hE
    · refine j_iload_n C dX4_fewestAway_46 3 rfl ?_
      refine j_istore_n (i := 1) (lv' := [(1, .int x2), (3, .int a0), (0, .int x0), (2, .int x2)]) C dX4_fewestAway_47 rfl (by decide) rfl ?_
      refine j_sub [2, 0, 3] rfl ?_
      exact p_X4_fewestAway_48 C Q hg hk54 x0 x2 x2 S3 hE
set_option maxRecDepth 100000 in
theorem p_X4_fewestAway_6 {X : jX} {D : va_G} {ad : Nat → Nat} {cy : Nat → ClassId} (C : jC X (jMain D ad cy) RX4 cX4_fewestAway (some .int) 4 1 20) {z : Int32 × jS} (Q : jRet X (jMain D ad cy) (some (.int z.1), z.2)) {g : Int32 → Int32 → Int32 → jS → Option (Int32 × jS)} (hg : ∀ (x0 : Int32) (x1 : Int32) (x2 : Int32) (S : jS), g x0 x1 x2 S = some z → jJ X (jMain D ad cy) 6 [(0, .int x0), (1, .int x1), (2, .int x2)] [] S) {k54 : Int32 → jS → Option (Int32 × jS)} (hk54 : ∀ (x1 : Int32) (S : jS), k54 x1 S = some z → jJ X (jMain D ad cy) 54 [(1, .int x1)] [] S) (x0 : Int32) (x1 : Int32) (x2 : Int32) (S : jS) (hE : f_X4_fewestAway_6  g k54 x0 x1 x2 S = some z) : jJ X (jMain D ad cy) 6 [(0, .int x0), (1, .int x1), (2, .int x2)] [] S := by
  unfold f_X4_fewestAway_6 at hE
  refine j_iload_n C dX4_fewestAway_6 2 rfl ?_
  refine j_sipush (v := 256) C dX4_fewestAway_7 jc_sp_256 ?_
  refine j_icmp_ge (tgt := 54) C dX4_fewestAway_10 rfl hE (fun hE => ?_) (fun hE => ?_)
  · refine j_sub [1] rfl ?_
    exact hk54 x1 S hE
  · refine j_iload_n C dX4_fewestAway_13 0 rfl ?_
    refine j_iload_n C dX4_fewestAway_14 2 rfl ?_
    refine j_iload_n C dX4_fewestAway_15 2 rfl ?_
    refine j_iconst (v := 1) C dX4_fewestAway_16 jc_ic_1 ?_
    refine j_ishr C dX4_fewestAway_17 ?_
    refine j_ior C dX4_fewestAway_18 ?_
    refine j_iconst (v := (-1)) C dX4_fewestAway_19 jc_ic_m1 ?_
    refine j_ixor C dX4_fewestAway_20 ?_
    refine j_iand C dX4_fewestAway_21 ?_
    refine j_if_ne (tgt := 29) C dX4_fewestAway_22 rfl hE (fun hE => ?_) (fun hE => ?_)
    · refine j_iconst (v := 0) C dX4_fewestAway_29 jc_ic_0 ?_
      exact p_X4_fewestAway_30 C Q hg hk54 0 x0 x1 x2 S hE
    · refine j_iconst (v := 1) C dX4_fewestAway_25 jc_ic_1 ?_
      refine j_goto (tgt := 30) C dX4_fewestAway_26 rfl ?_
      exact p_X4_fewestAway_30 C Q hg hk54 1 x0 x1 x2 S hE
theorem q_X4_fewestAway_6 {X : jX} {D : va_G} {ad : Nat → Nat} {cy : Nat → ClassId} (C : jC X (jMain D ad cy) RX4 cX4_fewestAway (some .int) 4 1 20) {z : Int32 × jS} (Q : jRet X (jMain D ad cy) (some (.int z.1), z.2)) {k54 : Int32 → jS → Option (Int32 × jS)} (hk54 : ∀ (x1 : Int32) (S : jS), k54 x1 S = some z → jJ X (jMain D ad cy) 54 [(1, .int x1)] [] S) (x0 : Int32) (x1 : Int32) (x2 : Int32) (S : jS) (hE : lp_X4_fewestAway_6  k54 x0 x1 x2 S = some z) : jJ X (jMain D ad cy) 6 [(0, .int x0), (1, .int x1), (2, .int x2)] [] S :=
  jloop_P (α := Int32 × Int32 × Int32 × jS) (B := (fun g q => f_X4_fewestAway_6  (fun x0 x1 x2 S => g (x0, x1, x2, S)) k54 q.1 q.2.1 q.2.2.1 q.2.2.2)) (P := fun q => jJ X (jMain D ad cy) 6 [(0, .int q.1), (1, .int q.2.1), (2, .int q.2.2.1)] [] q.2.2.2) (fun g q hg h => p_X4_fewestAway_6 C Q (g := fun x0 x1 x2 S => g (x0, x1, x2, S)) (fun x0 x1 x2 S h => hg (x0, x1, x2, S) h) hk54 q.1 q.2.1 q.2.2.1 q.2.2.2 h) jN (x0, x1, x2, S) hE
set_option maxRecDepth 100000 in
theorem p_X4_fewestAway_54 {X : jX} {D : va_G} {ad : Nat → Nat} {cy : Nat → ClassId} (C : jC X (jMain D ad cy) RX4 cX4_fewestAway (some .int) 4 1 20) {z : Int32 × jS} (Q : jRet X (jMain D ad cy) (some (.int z.1), z.2))  (x1 : Int32) (S : jS) (hE : f_X4_fewestAway_54   x1 S = some z) : jJ X (jMain D ad cy) 54 [(1, .int x1)] [] S := by
  unfold f_X4_fewestAway_54 at hE
  refine j_iload_n C dX4_fewestAway_54 0 rfl ?_
  exact j_iret C Q dX4_fewestAway_55 hE
set_option maxRecDepth 100000 in
theorem p_X4_fewestAway_e {X : jX} {D : va_G} {ad : Nat → Nat} {cy : Nat → ClassId} (C : jC X (jMain D ad cy) RX4 cX4_fewestAway (some .int) 4 1 20) {z : Int32 × jS} (Q : jRet X (jMain D ad cy) (some (.int z.1), z.2))  (x0 : Int32) (S : jS) (hE : f_X4_fewestAway_e   x0 S = some z) : jJ X (jMain D ad cy) 0 [(0, .int x0)] [] S := by
  unfold f_X4_fewestAway_e at hE
  refine j_sipush (v := 255) C dX4_fewestAway_0 jc_sp_255 ?_
  refine j_istore_n (i := 1) (lv' := [(1, .int 255), (0, .int x0)]) C dX4_fewestAway_3 rfl (by decide) rfl ?_
  refine j_iconst (v := 0) C dX4_fewestAway_4 jc_ic_0 ?_
  refine j_istore_n (i := 2) (lv' := [(2, .int 0), (1, .int 255), (0, .int x0)]) C dX4_fewestAway_5 rfl (by decide) rfl ?_
  refine j_sub [2, 1, 0] rfl ?_
  exact q_X4_fewestAway_6 C Q (p_X4_fewestAway_54 C Q ) x0 255 0 S hE
theorem c_X4_fewestAway {l : Launch} {D : va_G} {ad : Nat → Nat} {cy : Nat → ClassId} (hO : jOk (jMain D ad cy)) (x0 : Int32) (S : jS) {z : Int32 × jS} (hz : f_X4_fewestAway x0 S = some z) : Met l yX4_fewestAway (.code yX4_fewestAway cX4_fewestAway 4 (some .int) :: jT) { frames := 1, cells := 0, slots := 0, locals := 20 } (va_Pc [.int x0] (jInv (jMain D ad cy) S)) (jQ (jMain D ad cy) (some (.int z.1), z.2)) 0 0 (yA (jMain D ad cy)) :=
  jMet hO (by decide +kernel) rfl (Nat.le_of_ble_eq_true rfl) (fun X _ C Q => p_X4_fewestAway_e C Q x0 S hz)
theorem k_X11_168_X4_fewestAway {X : jX} {D : va_G} {ad : Nat → Nat} {cy : Nat → ClassId} {cc : ByteArray} {ret : Option FieldType} {nL fr lo pc : Nat} {lv : List (Nat × Value)} {st : List Value} {S : jS} {β : Type} {z : β} (C : jC X (jMain D ad cy) RX11 cc ret nL fr lo) {a0 : Int32} {E : Int32 → jS → Option β} (d : decode cc pc = .ok (.invokestatic 168, 3)) (hE : jcl (f_X4_fewestAway a0 S) E = some z) (hfr : 2 ≤ fr) (hlo : 43 ≤ lo) (hst : (st.map fun v => v.category).sum ≤ 8) (K : ∀ (v : Int32) (S1 : jS), E v S1 = some z → jJ X (jMain D ad cy) (pc + 3) lv (.int v :: st) S1) : jJ X (jMain D ad cy) pc lv (.int a0 :: st) S := by
  obtain ⟨v, h1, h2⟩ := jcl_some hE
  exact j_callS (n := 1) (As := [.int a0]) C (c_X4_fewestAway C.2.2.2.2.2.2.1 a0 S h1) tw_610 tw_611 tw_78 tw_612 (by decide +kernel) rfl hfr hlo hst rfl d (K _ _ h2)
set_option maxRecDepth 100000 in
theorem p_X11_away_e {X : jX} {D : va_G} {ad : Nat → Nat} {cy : Nat → ClassId} (C : jC X (jMain D ad cy) RX11 cX11_away (some .int) 1 5 119) {z : Int32 × jS} (Q : jRet X (jMain D ad cy) (some (.int z.1), z.2))   (S : jS) (hE : f_X11_away_e    S = some z) : jJ X (jMain D ad cy) 0 [(0, .ref (ad 0))] [] S := by
  unfold f_X11_away_e at hE
  refine j_aload_n C dX11_away_0 0 rfl ?_
  refine g_X11_21_0 C dX11_away_1 ?_
  refine j_aload_n C dX11_away_4 0 rfl ?_
  refine g_X11_44_0 C dX11_away_5 ?_
  refine g_X11_85_21 C dX11_away_8 ?_
  refine j_aload_n C dX11_away_11 0 rfl ?_
  refine g_X11_44_0 C dX11_away_12 ?_
  refine g_X11_96_21 C dX11_away_15 ?_
  refine k_X11_146_X2_quarrelling_r22 C dX11_away_18 hE (Nat.le_of_ble_eq_true rfl) (Nat.le_of_ble_eq_true rfl) (Nat.le_of_ble_eq_true rfl) (fun v2 S1 hE => ?_)
  refine k_X11_168_X4_fewestAway C dX11_away_21 hE (Nat.le_of_ble_eq_true rfl) (Nat.le_of_ble_eq_true rfl) (Nat.le_of_ble_eq_true rfl) (fun v4 S3 hE => ?_)
  exact j_iret C Q dX11_away_24 hE
theorem c_X11_away {l : Launch} {D : va_G} {ad : Nat → Nat} {cy : Nat → ClassId} (hO : jOk (jMain D ad cy))  (S : jS) {z : Int32 × jS} (hz : f_X11_away  S = some z) : Met l yX11_away (.code yX11_away cX11_away 1 (some .int) :: jT) { frames := 5, cells := 0, slots := 0, locals := 119 } (va_Pc [.ref (ad 0)] (jInv (jMain D ad cy) S)) (jQ (jMain D ad cy) (some (.int z.1), z.2)) 0 0 (yA (jMain D ad cy)) :=
  jMet hO (by decide +kernel) rfl (Nat.le_of_ble_eq_true rfl) (fun X _ C Q => p_X11_away_e C Q  S hz)
set_option maxRecDepth 100000 in
theorem p_X12_nextLived_2 {X : jX} {D : va_G} {ad : Nat → Nat} {cy : Nat → ClassId} (C : jC X (jMain D ad cy) RX12 cX12_nextLived (some .int) 3 0 0) {z : Int32 × jS} (Q : jRet X (jMain D ad cy) (some (.int z.1), z.2)) {g : Int32 → jS → Option (Int32 × jS)} (hg : ∀ (x2 : Int32) (S : jS), g x2 S = some z → jJ X (jMain D ad cy) 2 [(0, .ref (ad 41)), (2, .int x2)] [] S) {k23 : Int32 → jS → Option (Int32 × jS)} (hk23 : ∀ (x2 : Int32) (S : jS), k23 x2 S = some z → jJ X (jMain D ad cy) 23 [(2, .int x2)] [] S) (x2 : Int32) (S : jS) (hE : f_X12_nextLived_2  g k23 x2 S = some z) : jJ X (jMain D ad cy) 2 [(0, .ref (ad 41)), (2, .int x2)] [] S := by
  unfold f_X12_nextLived_2 at hE
  refine j_iload_n C dX12_nextLived_2 1 rfl ?_
  refine j_bipush (v := 8) C dX12_nextLived_3 jc_bp_8 ?_
  refine j_icmp_ge (tgt := 23) C dX12_nextLived_5 rfl hE (fun hE => ?_) (fun hE => ?_)
  · refine j_sub [1] rfl ?_
    exact hk23 x2 S hE
  · refine j_aload_n C dX12_nextLived_8 0 rfl ?_
    refine g_X12_7_41 C dX12_nextLived_9 ?_
    refine j_iload_n C dX12_nextLived_12 1 rfl ?_
    refine l_42 C dX12_nextLived_13 hE (fun v1 hE => ?_)
    refine j_if_ne (tgt := 23) C dX12_nextLived_14 rfl hE (fun hE => ?_) (fun hE => ?_)
    · refine j_sub [1] rfl ?_
      exact hk23 x2 S hE
    · refine j_iinc (v := (x2 + 1)) (lv' := [(2, .int (x2 + 1)), (0, .ref (ad 41))]) C dX12_nextLived_17 1 rfl (congrArg (fun w => x2 + w) jc_ic_1) (by decide) rfl ?_
      refine j_goto (tgt := 2) C dX12_nextLived_20 rfl ?_
      refine j_sub [1, 0] rfl ?_
      exact hg (x2 + 1) S hE
theorem q_X12_nextLived_2 {X : jX} {D : va_G} {ad : Nat → Nat} {cy : Nat → ClassId} (C : jC X (jMain D ad cy) RX12 cX12_nextLived (some .int) 3 0 0) {z : Int32 × jS} (Q : jRet X (jMain D ad cy) (some (.int z.1), z.2)) {k23 : Int32 → jS → Option (Int32 × jS)} (hk23 : ∀ (x2 : Int32) (S : jS), k23 x2 S = some z → jJ X (jMain D ad cy) 23 [(2, .int x2)] [] S) (x2 : Int32) (S : jS) (hE : lp_X12_nextLived_2  k23 x2 S = some z) : jJ X (jMain D ad cy) 2 [(0, .ref (ad 41)), (2, .int x2)] [] S :=
  jloop_P (α := Int32 × jS) (B := (fun g q => f_X12_nextLived_2  (fun x2 S => g (x2, S)) k23 q.1 q.2)) (P := fun q => jJ X (jMain D ad cy) 2 [(0, .ref (ad 41)), (2, .int q.1)] [] q.2) (fun g q hg h => p_X12_nextLived_2 C Q (g := fun x2 S => g (x2, S)) (fun x2 S h => hg (x2, S) h) hk23 q.1 q.2 h) jN (x2, S) hE
set_option maxRecDepth 100000 in
theorem p_X12_nextLived_23 {X : jX} {D : va_G} {ad : Nat → Nat} {cy : Nat → ClassId} (C : jC X (jMain D ad cy) RX12 cX12_nextLived (some .int) 3 0 0) {z : Int32 × jS} (Q : jRet X (jMain D ad cy) (some (.int z.1), z.2))  (x2 : Int32) (S : jS) (hE : f_X12_nextLived_23   x2 S = some z) : jJ X (jMain D ad cy) 23 [(2, .int x2)] [] S := by
  unfold f_X12_nextLived_23 at hE
  refine j_iload_n C dX12_nextLived_23 0 rfl ?_
  exact j_iret C Q dX12_nextLived_24 hE
set_option maxRecDepth 100000 in
theorem p_X12_nextLived_e {X : jX} {D : va_G} {ad : Nat → Nat} {cy : Nat → ClassId} (C : jC X (jMain D ad cy) RX12 cX12_nextLived (some .int) 3 0 0) {z : Int32 × jS} (Q : jRet X (jMain D ad cy) (some (.int z.1), z.2))  (x1 : Int32) (S : jS) (hE : f_X12_nextLived_e   x1 S = some z) : jJ X (jMain D ad cy) 0 [(0, .ref (ad 41)), (1, .int x1)] [] S := by
  unfold f_X12_nextLived_e at hE
  refine j_iload_n C dX12_nextLived_0 1 rfl ?_
  refine j_istore_n (i := 2) (lv' := [(2, .int x1), (0, .ref (ad 41)), (1, .int x1)]) C dX12_nextLived_1 rfl (by decide) rfl ?_
  refine j_sub [1, 0] rfl ?_
  exact q_X12_nextLived_2 C Q (p_X12_nextLived_23 C Q ) x1 S hE
theorem c_X12_nextLived {l : Launch} {D : va_G} {ad : Nat → Nat} {cy : Nat → ClassId} (hO : jOk (jMain D ad cy)) (x1 : Int32) (S : jS) {z : Int32 × jS} (hz : f_X12_nextLived x1 S = some z) : Met l yX12_nextLived (.code yX12_nextLived cX12_nextLived 3 (some .int) :: jT) { frames := 0, cells := 0, slots := 0, locals := 0 } (va_Pc [.ref (ad 41), .int x1] (jInv (jMain D ad cy) S)) (jQ (jMain D ad cy) (some (.int z.1), z.2)) 0 0 (yA (jMain D ad cy)) :=
  jMet hO (by decide +kernel) rfl (Nat.le_of_ble_eq_true rfl) (fun X _ C Q => p_X12_nextLived_e C Q x1 S hz)
theorem k_X12_137_X12_nextLived {X : jX} {D : va_G} {ad : Nat → Nat} {cy : Nat → ClassId} {cc : ByteArray} {ret : Option FieldType} {nL fr lo pc : Nat} {lv : List (Nat × Value)} {st : List Value} {S : jS} {β : Type} {z : β} (C : jC X (jMain D ad cy) RX12 cc ret nL fr lo) {a0 : Int32} {E : Int32 → jS → Option β} (d : decode cc pc = .ok (.invokevirtual 137, 3)) (hE : jcl (f_X12_nextLived a0 S) E = some z) (hfr : 1 ≤ fr) (hlo : 22 ≤ lo) (hst : (st.map fun v => v.category).sum ≤ 8) (K : ∀ (v : Int32) (S1 : jS), E v S1 = some z → jJ X (jMain D ad cy) (pc + 3) lv (.int v :: st) S1) : jJ X (jMain D ad cy) pc lv (.int a0 :: .ref (ad 41) :: st) S := by
  obtain ⟨v, h1, h2⟩ := jcl_some hE
  exact j_callV (k := 41) (ci := 12) (T := TX12) (N := 25) (n := 1) (As := [.int a0]) C (c_X12_nextLived C.2.2.2.2.2.2.1 a0 S h1) tw_1080 tw_1082 tw_46 tw_81 tw_1083 (by decide +kernel) rfl (by decide : 41 < 56) rfl rfl hfr hlo hst rfl d (K _ _ h2)
set_option maxRecDepth 100000 in
theorem p_X12_isTaken_41 {X : jX} {D : va_G} {ad : Nat → Nat} {cy : Nat → ClassId} (C : jC X (jMain D ad cy) RX12 cX12_isTaken (some .boolean) 5 0 0) {z : Int32 × jS} (Q : jRet X (jMain D ad cy) (some (.int z.1), z.2)) {g : Int32 → Int32 → Int32 → Int32 → jS → Option (Int32 × jS)} (hg : ∀ (x1 : Int32) (x2 : Int32) (x3 : Int32) (x4 : Int32) (S : jS), g x1 x2 x3 x4 S = some z → jJ X (jMain D ad cy) 5 [(0, .ref (ad 41)), (1, .int x1), (2, .int x2), (3, .int x3), (4, .int x4)] [] S) {k48 : Int32 → jS → Option (Int32 × jS)} (hk48 : ∀ (x3 : Int32) (S : jS), k48 x3 S = some z → jJ X (jMain D ad cy) 48 [(3, .int x3)] [] S) (a0 : Int32) (x1 : Int32) (x2 : Int32) (x4 : Int32) (S : jS) (hE : f_X12_isTaken_41  g k48 a0 x1 x2 x4 S = some z) : jJ X (jMain D ad cy) 41 [(0, .ref (ad 41)), (1, .int x1), (2, .int x2), (4, .int x4)] [.int a0] S := by
  unfold f_X12_isTaken_41 at hE
  refine j_istore_n (i := 3) (lv' := [(3, .int a0), (0, .ref (ad 41)), (1, .int x1), (2, .int x2), (4, .int x4)]) C dX12_isTaken_41 rfl (by decide) rfl ?_
  refine j_iinc (v := (x4 + 1)) (lv' := [(4, .int (x4 + 1)), (3, .int a0), (0, .ref (ad 41)), (1, .int x1), (2, .int x2)]) C dX12_isTaken_42 4 rfl (congrArg (fun w => x4 + w) jc_ic_1) (by decide) rfl ?_
  refine j_goto (tgt := 5) C dX12_isTaken_45 rfl ?_
  refine j_sub [2, 3, 4, 1, 0] rfl ?_
  exact hg x1 x2 a0 (x4 + 1) S hE
set_option maxRecDepth 100000 in
theorem p_X12_isTaken_36 {X : jX} {D : va_G} {ad : Nat → Nat} {cy : Nat → ClassId} (C : jC X (jMain D ad cy) RX12 cX12_isTaken (some .boolean) 5 0 0) {z : Int32 × jS} (Q : jRet X (jMain D ad cy) (some (.int z.1), z.2)) {g : Int32 → Int32 → Int32 → Int32 → jS → Option (Int32 × jS)} (hg : ∀ (x1 : Int32) (x2 : Int32) (x3 : Int32) (x4 : Int32) (S : jS), g x1 x2 x3 x4 S = some z → jJ X (jMain D ad cy) 5 [(0, .ref (ad 41)), (1, .int x1), (2, .int x2), (3, .int x3), (4, .int x4)] [] S) {k48 : Int32 → jS → Option (Int32 × jS)} (hk48 : ∀ (x3 : Int32) (S : jS), k48 x3 S = some z → jJ X (jMain D ad cy) 48 [(3, .int x3)] [] S) (x1 : Int32) (x2 : Int32) (x4 : Int32) (S : jS) (hE : f_X12_isTaken_36  g k48 x1 x2 x4 S = some z) : jJ X (jMain D ad cy) 36 [(0, .ref (ad 41)), (1, .int x1), (2, .int x2), (4, .int x4)] [] S := by
  unfold f_X12_isTaken_36 at hE
  refine j_iconst (v := 1) C dX12_isTaken_36 jc_ic_1 ?_
  refine j_goto (tgt := 41) C dX12_isTaken_37 rfl ?_
  exact p_X12_isTaken_41 C Q hg hk48 1 x1 x2 x4 S hE
set_option maxRecDepth 100000 in
theorem p_X12_isTaken_40 {X : jX} {D : va_G} {ad : Nat → Nat} {cy : Nat → ClassId} (C : jC X (jMain D ad cy) RX12 cX12_isTaken (some .boolean) 5 0 0) {z : Int32 × jS} (Q : jRet X (jMain D ad cy) (some (.int z.1), z.2)) {g : Int32 → Int32 → Int32 → Int32 → jS → Option (Int32 × jS)} (hg : ∀ (x1 : Int32) (x2 : Int32) (x3 : Int32) (x4 : Int32) (S : jS), g x1 x2 x3 x4 S = some z → jJ X (jMain D ad cy) 5 [(0, .ref (ad 41)), (1, .int x1), (2, .int x2), (3, .int x3), (4, .int x4)] [] S) {k48 : Int32 → jS → Option (Int32 × jS)} (hk48 : ∀ (x3 : Int32) (S : jS), k48 x3 S = some z → jJ X (jMain D ad cy) 48 [(3, .int x3)] [] S) (x1 : Int32) (x2 : Int32) (x4 : Int32) (S : jS) (hE : f_X12_isTaken_40  g k48 x1 x2 x4 S = some z) : jJ X (jMain D ad cy) 40 [(0, .ref (ad 41)), (1, .int x1), (2, .int x2), (4, .int x4)] [] S := by
  unfold f_X12_isTaken_40 at hE
  refine j_iconst (v := 0) C dX12_isTaken_40 jc_ic_0 ?_
  exact p_X12_isTaken_41 C Q hg hk48 0 x1 x2 x4 S hE
set_option maxRecDepth 100000 in
theorem p_X12_isTaken_5 {X : jX} {D : va_G} {ad : Nat → Nat} {cy : Nat → ClassId} (C : jC X (jMain D ad cy) RX12 cX12_isTaken (some .boolean) 5 0 0) {z : Int32 × jS} (Q : jRet X (jMain D ad cy) (some (.int z.1), z.2)) {g : Int32 → Int32 → Int32 → Int32 → jS → Option (Int32 × jS)} (hg : ∀ (x1 : Int32) (x2 : Int32) (x3 : Int32) (x4 : Int32) (S : jS), g x1 x2 x3 x4 S = some z → jJ X (jMain D ad cy) 5 [(0, .ref (ad 41)), (1, .int x1), (2, .int x2), (3, .int x3), (4, .int x4)] [] S) {k48 : Int32 → jS → Option (Int32 × jS)} (hk48 : ∀ (x3 : Int32) (S : jS), k48 x3 S = some z → jJ X (jMain D ad cy) 48 [(3, .int x3)] [] S) (x1 : Int32) (x2 : Int32) (x3 : Int32) (x4 : Int32) (S : jS) (hE : f_X12_isTaken_5  g k48 x1 x2 x3 x4 S = some z) : jJ X (jMain D ad cy) 5 [(0, .ref (ad 41)), (1, .int x1), (2, .int x2), (3, .int x3), (4, .int x4)] [] S := by
  unfold f_X12_isTaken_5 at hE
  refine j_iload C dX12_isTaken_5 4 rfl ?_
  refine j_iload_n C dX12_isTaken_7 2 rfl ?_
  refine j_icmp_ge (tgt := 48) C dX12_isTaken_8 rfl hE (fun hE => ?_) (fun hE => ?_)
  · refine j_sub [3] rfl ?_
    exact hk48 x3 S hE
  · refine j_iload_n C dX12_isTaken_11 3 rfl ?_
    refine j_if_ne (tgt := 36) C dX12_isTaken_12 rfl hE (fun hE => ?_) (fun hE => ?_)
    · refine j_sub [0, 1, 2, 4] rfl ?_
      exact p_X12_isTaken_36 C Q hg hk48 x1 x2 x4 S hE
    · refine j_aload_n C dX12_isTaken_15 0 rfl ?_
      refine g_X12_7_41 C dX12_isTaken_16 ?_
      refine j_iload C dX12_isTaken_19 4 rfl ?_
      refine l_42 C dX12_isTaken_21 hE (fun v1 hE => ?_)
      refine j_if_le (tgt := 40) C dX12_isTaken_22 rfl hE (fun hE => ?_) (fun hE => ?_)
      · refine j_sub [0, 1, 2, 4] rfl ?_
        exact p_X12_isTaken_40 C Q hg hk48 x1 x2 x4 S hE
      · refine j_aload_n C dX12_isTaken_25 0 rfl ?_
        refine g_X12_33_41 C dX12_isTaken_26 ?_
        refine j_iload C dX12_isTaken_29 4 rfl ?_
        refine l_48 C dX12_isTaken_31 hE (fun v2 hE => ?_)
        refine j_iload_n C dX12_isTaken_32 1 rfl ?_
        refine j_icmp_ne (tgt := 40) C dX12_isTaken_33 rfl hE (fun hE => ?_) (fun hE => ?_)
        · refine j_sub [0, 1, 2, 4] rfl ?_
          exact p_X12_isTaken_40 C Q hg hk48 x1 x2 x4 S hE
        · refine j_sub [0, 1, 2, 4] rfl ?_
          exact p_X12_isTaken_36 C Q hg hk48 x1 x2 x4 S hE
theorem q_X12_isTaken_5 {X : jX} {D : va_G} {ad : Nat → Nat} {cy : Nat → ClassId} (C : jC X (jMain D ad cy) RX12 cX12_isTaken (some .boolean) 5 0 0) {z : Int32 × jS} (Q : jRet X (jMain D ad cy) (some (.int z.1), z.2)) {k48 : Int32 → jS → Option (Int32 × jS)} (hk48 : ∀ (x3 : Int32) (S : jS), k48 x3 S = some z → jJ X (jMain D ad cy) 48 [(3, .int x3)] [] S) (x1 : Int32) (x2 : Int32) (x3 : Int32) (x4 : Int32) (S : jS) (hE : lp_X12_isTaken_5  k48 x1 x2 x3 x4 S = some z) : jJ X (jMain D ad cy) 5 [(0, .ref (ad 41)), (1, .int x1), (2, .int x2), (3, .int x3), (4, .int x4)] [] S :=
  jloop_P (α := Int32 × Int32 × Int32 × Int32 × jS) (B := (fun g q => f_X12_isTaken_5  (fun x1 x2 x3 x4 S => g (x1, x2, x3, x4, S)) k48 q.1 q.2.1 q.2.2.1 q.2.2.2.1 q.2.2.2.2)) (P := fun q => jJ X (jMain D ad cy) 5 [(0, .ref (ad 41)), (1, .int q.1), (2, .int q.2.1), (3, .int q.2.2.1), (4, .int q.2.2.2.1)] [] q.2.2.2.2) (fun g q hg h => p_X12_isTaken_5 C Q (g := fun x1 x2 x3 x4 S => g (x1, x2, x3, x4, S)) (fun x1 x2 x3 x4 S h => hg (x1, x2, x3, x4, S) h) hk48 q.1 q.2.1 q.2.2.1 q.2.2.2.1 q.2.2.2.2 h) jN (x1, x2, x3, x4, S) hE
set_option maxRecDepth 100000 in
theorem p_X12_isTaken_48 {X : jX} {D : va_G} {ad : Nat → Nat} {cy : Nat → ClassId} (C : jC X (jMain D ad cy) RX12 cX12_isTaken (some .boolean) 5 0 0) {z : Int32 × jS} (Q : jRet X (jMain D ad cy) (some (.int z.1), z.2))  (x3 : Int32) (S : jS) (hE : f_X12_isTaken_48   x3 S = some z) : jJ X (jMain D ad cy) 48 [(3, .int x3)] [] S := by
  unfold f_X12_isTaken_48 at hE
  refine j_iload_n C dX12_isTaken_48 0 rfl ?_
  exact j_zret C Q dX12_isTaken_49 hE
set_option maxRecDepth 100000 in
theorem p_X12_isTaken_e {X : jX} {D : va_G} {ad : Nat → Nat} {cy : Nat → ClassId} (C : jC X (jMain D ad cy) RX12 cX12_isTaken (some .boolean) 5 0 0) {z : Int32 × jS} (Q : jRet X (jMain D ad cy) (some (.int z.1), z.2))  (x1 : Int32) (x2 : Int32) (S : jS) (hE : f_X12_isTaken_e   x1 x2 S = some z) : jJ X (jMain D ad cy) 0 [(0, .ref (ad 41)), (1, .int x1), (2, .int x2)] [] S := by
  unfold f_X12_isTaken_e at hE
  refine j_iconst (v := 0) C dX12_isTaken_0 jc_ic_0 ?_
  refine j_istore_n (i := 3) (lv' := [(3, .int 0), (0, .ref (ad 41)), (1, .int x1), (2, .int x2)]) C dX12_isTaken_1 rfl (by decide) rfl ?_
  refine j_iconst (v := 0) C dX12_isTaken_2 jc_ic_0 ?_
  refine j_istore (lv' := [(4, .int 0), (3, .int 0), (0, .ref (ad 41)), (1, .int x1), (2, .int x2)]) C dX12_isTaken_3 (by decide) rfl ?_
  refine j_sub [2, 3, 4, 1, 0] rfl ?_
  exact q_X12_isTaken_5 C Q (p_X12_isTaken_48 C Q ) x1 x2 0 0 S hE
theorem c_X12_isTaken {l : Launch} {D : va_G} {ad : Nat → Nat} {cy : Nat → ClassId} (hO : jOk (jMain D ad cy)) (x1 : Int32) (x2 : Int32) (S : jS) {z : Int32 × jS} (hz : f_X12_isTaken x1 x2 S = some z) : Met l yX12_isTaken (.code yX12_isTaken cX12_isTaken 5 (some .boolean) :: jT) { frames := 0, cells := 0, slots := 0, locals := 0 } (va_Pc [.ref (ad 41), .int x1, .int x2] (jInv (jMain D ad cy) S)) (jQ (jMain D ad cy) (some (.int z.1), z.2)) 0 0 (yA (jMain D ad cy)) :=
  jMet hO (by decide +kernel) rfl (Nat.le_of_ble_eq_true rfl) (fun X _ C Q => p_X12_isTaken_e C Q x1 x2 S hz)
theorem k_X12_140_X12_isTaken {X : jX} {D : va_G} {ad : Nat → Nat} {cy : Nat → ClassId} {cc : ByteArray} {ret : Option FieldType} {nL fr lo pc : Nat} {lv : List (Nat × Value)} {st : List Value} {S : jS} {β : Type} {z : β} (C : jC X (jMain D ad cy) RX12 cc ret nL fr lo) {a0 : Int32} {a1 : Int32} {E : Int32 → jS → Option β} (d : decode cc pc = .ok (.invokevirtual 140, 3)) (hE : jcl (f_X12_isTaken a0 a1 S) E = some z) (hfr : 1 ≤ fr) (hlo : 24 ≤ lo) (hst : (st.map fun v => v.category).sum ≤ 8) (K : ∀ (v : Int32) (S1 : jS), E v S1 = some z → jJ X (jMain D ad cy) (pc + 3) lv (.int v :: st) S1) : jJ X (jMain D ad cy) pc lv (.int a1 :: .int a0 :: .ref (ad 41) :: st) S := by
  obtain ⟨v, h1, h2⟩ := jcl_some hE
  exact j_callV (k := 41) (ci := 12) (T := TX12) (N := 25) (n := 2) (As := [.int a0, .int a1]) C (c_X12_isTaken C.2.2.2.2.2.2.1 a0 a1 S h1) tw_1096 tw_1098 tw_50 tw_81 tw_1099 (by decide +kernel) rfl (by decide : 41 < 56) rfl rfl hfr hlo hst rfl d (K _ _ h2)
set_option maxRecDepth 100000 in
theorem p_X12_nextComer_59 {X : jX} {D : va_G} {ad : Nat → Nat} {cy : Nat → ClassId} (C : jC X (jMain D ad cy) RX12 cX12_nextComer (some .int) 4 3 70) {z : Int32 × jS} (Q : jRet X (jMain D ad cy) (some (.int z.1), z.2)) {g : Int32 → Int32 → jS → Option (Int32 × jS)} (hg : ∀ (x1 : Int32) (x3 : Int32) (S : jS), g x1 x3 S = some z → jJ X (jMain D ad cy) 8 [(0, .ref (ad 41)), (1, .int x1), (3, .int x3)] [] S) {k70 : Int32 → jS → Option (Int32 × jS)} (hk70 : ∀ (x3 : Int32) (S : jS), k70 x3 S = some z → jJ X (jMain D ad cy) 70 [(3, .int x3)] [] S) (x1 : Int32) (x3 : Int32) (S : jS) (hE : f_X12_nextComer_59  g k70 x1 x3 S = some z) : jJ X (jMain D ad cy) 59 [(0, .ref (ad 41)), (1, .int x1), (3, .int x3)] [] S := by
  unfold f_X12_nextComer_59 at hE
  refine j_aload_n C dX12_nextComer_59 0 rfl ?_
  refine j_iload_n C dX12_nextComer_60 2 rfl ?_
  refine j_iconst (v := 1) C dX12_nextComer_61 jc_ic_1 ?_
  refine j_iadd C dX12_nextComer_62 ?_
  refine k_X12_137_X12_nextLived C dX12_nextComer_63 hE (Nat.le_of_ble_eq_true rfl) (Nat.le_of_ble_eq_true rfl) (Nat.le_of_ble_eq_true rfl) (fun v2 S1 hE => ?_)
  refine j_istore_n (i := 3) (lv' := [(3, .int v2), (0, .ref (ad 41)), (1, .int x1)]) C dX12_nextComer_66 rfl (by decide) rfl ?_
  refine j_goto (tgt := 8) C dX12_nextComer_67 rfl ?_
  refine j_sub [1, 2, 0] rfl ?_
  exact hg x1 v2 S1 hE
set_option maxRecDepth 100000 in
theorem p_X12_nextComer_8 {X : jX} {D : va_G} {ad : Nat → Nat} {cy : Nat → ClassId} (C : jC X (jMain D ad cy) RX12 cX12_nextComer (some .int) 4 3 70) {z : Int32 × jS} (Q : jRet X (jMain D ad cy) (some (.int z.1), z.2)) {g : Int32 → Int32 → jS → Option (Int32 × jS)} (hg : ∀ (x1 : Int32) (x3 : Int32) (S : jS), g x1 x3 S = some z → jJ X (jMain D ad cy) 8 [(0, .ref (ad 41)), (1, .int x1), (3, .int x3)] [] S) {k70 : Int32 → jS → Option (Int32 × jS)} (hk70 : ∀ (x3 : Int32) (S : jS), k70 x3 S = some z → jJ X (jMain D ad cy) 70 [(3, .int x3)] [] S) (x1 : Int32) (x3 : Int32) (S : jS) (hE : f_X12_nextComer_8  g k70 x1 x3 S = some z) : jJ X (jMain D ad cy) 8 [(0, .ref (ad 41)), (1, .int x1), (3, .int x3)] [] S := by
  unfold f_X12_nextComer_8 at hE
  refine j_iload_n C dX12_nextComer_8 2 rfl ?_
  refine j_bipush (v := 8) C dX12_nextComer_9 jc_bp_8 ?_
  refine j_icmp_ge (tgt := 70) C dX12_nextComer_11 rfl hE (fun hE => ?_) (fun hE => ?_)
  · refine j_sub [2] rfl ?_
    exact hk70 x3 S hE
  · refine j_aload_n C dX12_nextComer_14 0 rfl ?_
    refine j_iload_n C dX12_nextComer_15 2 rfl ?_
    refine j_iload_n C dX12_nextComer_16 1 rfl ?_
    refine k_X12_140_X12_isTaken C dX12_nextComer_17 hE (Nat.le_of_ble_eq_true rfl) (Nat.le_of_ble_eq_true rfl) (Nat.le_of_ble_eq_true rfl) (fun v2 S1 hE => ?_)
    refine j_if_ne (tgt := 59) C dX12_nextComer_20 rfl hE (fun hE => ?_) (fun hE => ?_)
    · exact p_X12_nextComer_59 C Q hg hk70 x1 x3 S1 hE
    · refine j_iload_n C dX12_nextComer_23 1 rfl ?_
      refine j_if_le (tgt := 70) C dX12_nextComer_24 rfl hE (fun hE => ?_) (fun hE => ?_)
      · refine j_sub [2] rfl ?_
        exact hk70 x3 S1 hE
      · refine j_aload_n C dX12_nextComer_27 0 rfl ?_
        refine g_X12_30_41 C dX12_nextComer_28 ?_
        refine j_iload_n C dX12_nextComer_31 1 rfl ?_
        refine j_iconst (v := 1) C dX12_nextComer_32 jc_ic_1 ?_
        refine j_isub C dX12_nextComer_33 ?_
        refine l_47 C dX12_nextComer_34 hE (fun v3 hE => ?_)
        refine j_if_le (tgt := 70) C dX12_nextComer_35 rfl hE (fun hE => ?_) (fun hE => ?_)
        · refine j_sub [2] rfl ?_
          exact hk70 x3 S1 hE
        · refine j_aload_n C dX12_nextComer_38 0 rfl ?_
          refine j_aload_n C dX12_nextComer_39 0 rfl ?_
          refine g_X12_30_41 C dX12_nextComer_40 ?_
          refine j_iload_n C dX12_nextComer_43 1 rfl ?_
          refine j_iconst (v := 1) C dX12_nextComer_44 jc_ic_1 ?_
          refine j_isub C dX12_nextComer_45 ?_
          refine l_47 C dX12_nextComer_46 hE (fun v4 hE => ?_)
          refine j_aload_n C dX12_nextComer_47 0 rfl ?_
          refine g_X12_7_41 C dX12_nextComer_48 ?_
          refine j_iload_n C dX12_nextComer_51 2 rfl ?_
          refine l_42 C dX12_nextComer_52 hE (fun v5 hE => ?_)
          refine k_X12_117_X12_mayNow C dX12_nextComer_53 hE (Nat.le_of_ble_eq_true rfl) (Nat.le_of_ble_eq_true rfl) (Nat.le_of_ble_eq_true rfl) (fun v7 S6 hE => ?_)
          refine j_if_ne (tgt := 70) C dX12_nextComer_56 rfl hE (fun hE => ?_) (fun hE => ?_)
          · refine j_sub [2] rfl ?_
            exact hk70 x3 S6 hE
          · exact p_X12_nextComer_59 C Q hg hk70 x1 x3 S6 hE
theorem q_X12_nextComer_8 {X : jX} {D : va_G} {ad : Nat → Nat} {cy : Nat → ClassId} (C : jC X (jMain D ad cy) RX12 cX12_nextComer (some .int) 4 3 70) {z : Int32 × jS} (Q : jRet X (jMain D ad cy) (some (.int z.1), z.2)) {k70 : Int32 → jS → Option (Int32 × jS)} (hk70 : ∀ (x3 : Int32) (S : jS), k70 x3 S = some z → jJ X (jMain D ad cy) 70 [(3, .int x3)] [] S) (x1 : Int32) (x3 : Int32) (S : jS) (hE : lp_X12_nextComer_8  k70 x1 x3 S = some z) : jJ X (jMain D ad cy) 8 [(0, .ref (ad 41)), (1, .int x1), (3, .int x3)] [] S :=
  jloop_P (α := Int32 × Int32 × jS) (B := (fun g q => f_X12_nextComer_8  (fun x1 x3 S => g (x1, x3, S)) k70 q.1 q.2.1 q.2.2)) (P := fun q => jJ X (jMain D ad cy) 8 [(0, .ref (ad 41)), (1, .int q.1), (3, .int q.2.1)] [] q.2.2) (fun g q hg h => p_X12_nextComer_8 C Q (g := fun x1 x3 S => g (x1, x3, S)) (fun x1 x3 S h => hg (x1, x3, S) h) hk70 q.1 q.2.1 q.2.2 h) jN (x1, x3, S) hE
set_option maxRecDepth 100000 in
theorem p_X12_nextComer_70 {X : jX} {D : va_G} {ad : Nat → Nat} {cy : Nat → ClassId} (C : jC X (jMain D ad cy) RX12 cX12_nextComer (some .int) 4 3 70) {z : Int32 × jS} (Q : jRet X (jMain D ad cy) (some (.int z.1), z.2))  (x3 : Int32) (S : jS) (hE : f_X12_nextComer_70   x3 S = some z) : jJ X (jMain D ad cy) 70 [(3, .int x3)] [] S := by
  unfold f_X12_nextComer_70 at hE
  refine j_iload_n C dX12_nextComer_70 0 rfl ?_
  exact j_iret C Q dX12_nextComer_71 hE
set_option maxRecDepth 100000 in
theorem p_X12_nextComer_e {X : jX} {D : va_G} {ad : Nat → Nat} {cy : Nat → ClassId} (C : jC X (jMain D ad cy) RX12 cX12_nextComer (some .int) 4 3 70) {z : Int32 × jS} (Q : jRet X (jMain D ad cy) (some (.int z.1), z.2))  (x1 : Int32) (x2 : Int32) (S : jS) (hE : f_X12_nextComer_e   x1 x2 S = some z) : jJ X (jMain D ad cy) 0 [(0, .ref (ad 41)), (1, .int x1), (2, .int x2)] [] S := by
  unfold f_X12_nextComer_e at hE
  refine j_aload_n C dX12_nextComer_0 0 rfl ?_
  refine j_iload_n C dX12_nextComer_1 2 rfl ?_
  refine j_iconst (v := 1) C dX12_nextComer_2 jc_ic_1 ?_
  refine j_iadd C dX12_nextComer_3 ?_
  refine k_X12_137_X12_nextLived C dX12_nextComer_4 hE (Nat.le_of_ble_eq_true rfl) (Nat.le_of_ble_eq_true rfl) (Nat.le_of_ble_eq_true rfl) (fun v2 S1 hE => ?_)
  refine j_istore_n (i := 3) (lv' := [(3, .int v2), (0, .ref (ad 41)), (1, .int x1), (2, .int x2)]) C dX12_nextComer_7 rfl (by decide) rfl ?_
  refine j_sub [1, 2, 0] rfl ?_
  exact q_X12_nextComer_8 C Q (p_X12_nextComer_70 C Q ) x1 v2 S1 hE
theorem c_X12_nextComer {l : Launch} {D : va_G} {ad : Nat → Nat} {cy : Nat → ClassId} (hO : jOk (jMain D ad cy)) (x1 : Int32) (x2 : Int32) (S : jS) {z : Int32 × jS} (hz : f_X12_nextComer x1 x2 S = some z) : Met l yX12_nextComer (.code yX12_nextComer cX12_nextComer 4 (some .int) :: jT) { frames := 3, cells := 0, slots := 0, locals := 70 } (va_Pc [.ref (ad 41), .int x1, .int x2] (jInv (jMain D ad cy) S)) (jQ (jMain D ad cy) (some (.int z.1), z.2)) 0 0 (yA (jMain D ad cy)) :=
  jMet hO (by decide +kernel) rfl (Nat.le_of_ble_eq_true rfl) (fun X _ C Q => p_X12_nextComer_e C Q x1 x2 S hz)
theorem k_X12_157_X12_nextComer {X : jX} {D : va_G} {ad : Nat → Nat} {cy : Nat → ClassId} {cc : ByteArray} {ret : Option FieldType} {nL fr lo pc : Nat} {lv : List (Nat × Value)} {st : List Value} {S : jS} {β : Type} {z : β} (C : jC X (jMain D ad cy) RX12 cc ret nL fr lo) {a0 : Int32} {a1 : Int32} {E : Int32 → jS → Option β} (d : decode cc pc = .ok (.invokevirtual 157, 3)) (hE : jcl (f_X12_nextComer a0 a1 S) E = some z) (hfr : 4 ≤ fr) (hlo : 93 ≤ lo) (hst : (st.map fun v => v.category).sum ≤ 8) (K : ∀ (v : Int32) (S1 : jS), E v S1 = some z → jJ X (jMain D ad cy) (pc + 3) lv (.int v :: st) S1) : jJ X (jMain D ad cy) pc lv (.int a1 :: .int a0 :: .ref (ad 41) :: st) S := by
  obtain ⟨v, h1, h2⟩ := jcl_some hE
  exact j_callV (k := 41) (ci := 12) (T := TX12) (N := 25) (n := 2) (As := [.int a0, .int a1]) C (c_X12_nextComer C.2.2.2.2.2.2.1 a0 a1 S h1) tw_1092 tw_1094 tw_49 tw_81 tw_1095 (by decide +kernel) rfl (by decide : 41 < 56) rfl rfl hfr hlo hst rfl d (K _ _ h2)
set_option maxRecDepth 100000 in
theorem p_X12_lastLived_2 {X : jX} {D : va_G} {ad : Nat → Nat} {cy : Nat → ClassId} (C : jC X (jMain D ad cy) RX12 cX12_lastLived (some .int) 3 0 0) {z : Int32 × jS} (Q : jRet X (jMain D ad cy) (some (.int z.1), z.2)) {g : Int32 → jS → Option (Int32 × jS)} (hg : ∀ (x2 : Int32) (S : jS), g x2 S = some z → jJ X (jMain D ad cy) 2 [(0, .ref (ad 41)), (2, .int x2)] [] S) {k21 : Int32 → jS → Option (Int32 × jS)} (hk21 : ∀ (x2 : Int32) (S : jS), k21 x2 S = some z → jJ X (jMain D ad cy) 21 [(2, .int x2)] [] S) (x2 : Int32) (S : jS) (hE : f_X12_lastLived_2  g k21 x2 S = some z) : jJ X (jMain D ad cy) 2 [(0, .ref (ad 41)), (2, .int x2)] [] S := by
  unfold f_X12_lastLived_2 at hE
  refine j_iload_n C dX12_lastLived_2 1 rfl ?_
  refine j_if_lt (tgt := 21) C dX12_lastLived_3 rfl hE (fun hE => ?_) (fun hE => ?_)
  · refine j_sub [1] rfl ?_
    exact hk21 x2 S hE
  · refine j_aload_n C dX12_lastLived_6 0 rfl ?_
    refine g_X12_7_41 C dX12_lastLived_7 ?_
    refine j_iload_n C dX12_lastLived_10 1 rfl ?_
    refine l_42 C dX12_lastLived_11 hE (fun v1 hE => ?_)
    refine j_if_ne (tgt := 21) C dX12_lastLived_12 rfl hE (fun hE => ?_) (fun hE => ?_)
    · refine j_sub [1] rfl ?_
      exact hk21 x2 S hE
    · refine j_iinc (v := (x2 + (-1))) (lv' := [(2, .int (x2 + (-1))), (0, .ref (ad 41))]) C dX12_lastLived_15 1 rfl (congrArg (fun w => x2 + w) jc_ic_m1) (by decide) rfl ?_
      refine j_goto (tgt := 2) C dX12_lastLived_18 rfl ?_
      refine j_sub [1, 0] rfl ?_
      exact hg (x2 + (-1)) S hE
theorem q_X12_lastLived_2 {X : jX} {D : va_G} {ad : Nat → Nat} {cy : Nat → ClassId} (C : jC X (jMain D ad cy) RX12 cX12_lastLived (some .int) 3 0 0) {z : Int32 × jS} (Q : jRet X (jMain D ad cy) (some (.int z.1), z.2)) {k21 : Int32 → jS → Option (Int32 × jS)} (hk21 : ∀ (x2 : Int32) (S : jS), k21 x2 S = some z → jJ X (jMain D ad cy) 21 [(2, .int x2)] [] S) (x2 : Int32) (S : jS) (hE : lp_X12_lastLived_2  k21 x2 S = some z) : jJ X (jMain D ad cy) 2 [(0, .ref (ad 41)), (2, .int x2)] [] S :=
  jloop_P (α := Int32 × jS) (B := (fun g q => f_X12_lastLived_2  (fun x2 S => g (x2, S)) k21 q.1 q.2)) (P := fun q => jJ X (jMain D ad cy) 2 [(0, .ref (ad 41)), (2, .int q.1)] [] q.2) (fun g q hg h => p_X12_lastLived_2 C Q (g := fun x2 S => g (x2, S)) (fun x2 S h => hg (x2, S) h) hk21 q.1 q.2 h) jN (x2, S) hE
set_option maxRecDepth 100000 in
theorem p_X12_lastLived_21 {X : jX} {D : va_G} {ad : Nat → Nat} {cy : Nat → ClassId} (C : jC X (jMain D ad cy) RX12 cX12_lastLived (some .int) 3 0 0) {z : Int32 × jS} (Q : jRet X (jMain D ad cy) (some (.int z.1), z.2))  (x2 : Int32) (S : jS) (hE : f_X12_lastLived_21   x2 S = some z) : jJ X (jMain D ad cy) 21 [(2, .int x2)] [] S := by
  unfold f_X12_lastLived_21 at hE
  refine j_iload_n C dX12_lastLived_21 0 rfl ?_
  exact j_iret C Q dX12_lastLived_22 hE
set_option maxRecDepth 100000 in
theorem p_X12_lastLived_e {X : jX} {D : va_G} {ad : Nat → Nat} {cy : Nat → ClassId} (C : jC X (jMain D ad cy) RX12 cX12_lastLived (some .int) 3 0 0) {z : Int32 × jS} (Q : jRet X (jMain D ad cy) (some (.int z.1), z.2))  (x1 : Int32) (S : jS) (hE : f_X12_lastLived_e   x1 S = some z) : jJ X (jMain D ad cy) 0 [(0, .ref (ad 41)), (1, .int x1)] [] S := by
  unfold f_X12_lastLived_e at hE
  refine j_iload_n C dX12_lastLived_0 1 rfl ?_
  refine j_istore_n (i := 2) (lv' := [(2, .int x1), (0, .ref (ad 41)), (1, .int x1)]) C dX12_lastLived_1 rfl (by decide) rfl ?_
  refine j_sub [1, 0] rfl ?_
  exact q_X12_lastLived_2 C Q (p_X12_lastLived_21 C Q ) x1 S hE
theorem c_X12_lastLived {l : Launch} {D : va_G} {ad : Nat → Nat} {cy : Nat → ClassId} (hO : jOk (jMain D ad cy)) (x1 : Int32) (S : jS) {z : Int32 × jS} (hz : f_X12_lastLived x1 S = some z) : Met l yX12_lastLived (.code yX12_lastLived cX12_lastLived 3 (some .int) :: jT) { frames := 0, cells := 0, slots := 0, locals := 0 } (va_Pc [.ref (ad 41), .int x1] (jInv (jMain D ad cy) S)) (jQ (jMain D ad cy) (some (.int z.1), z.2)) 0 0 (yA (jMain D ad cy)) :=
  jMet hO (by decide +kernel) rfl (Nat.le_of_ble_eq_true rfl) (fun X _ C Q => p_X12_lastLived_e C Q x1 S hz)
theorem k_X12_154_X12_lastLived {X : jX} {D : va_G} {ad : Nat → Nat} {cy : Nat → ClassId} {cc : ByteArray} {ret : Option FieldType} {nL fr lo pc : Nat} {lv : List (Nat × Value)} {st : List Value} {S : jS} {β : Type} {z : β} (C : jC X (jMain D ad cy) RX12 cc ret nL fr lo) {a0 : Int32} {E : Int32 → jS → Option β} (d : decode cc pc = .ok (.invokevirtual 154, 3)) (hE : jcl (f_X12_lastLived a0 S) E = some z) (hfr : 1 ≤ fr) (hlo : 22 ≤ lo) (hst : (st.map fun v => v.category).sum ≤ 8) (K : ∀ (v : Int32) (S1 : jS), E v S1 = some z → jJ X (jMain D ad cy) (pc + 3) lv (.int v :: st) S1) : jJ X (jMain D ad cy) pc lv (.int a0 :: .ref (ad 41) :: st) S := by
  obtain ⟨v, h1, h2⟩ := jcl_some hE
  exact j_callV (k := 41) (ci := 12) (T := TX12) (N := 25) (n := 1) (As := [.int a0]) C (c_X12_lastLived C.2.2.2.2.2.2.1 a0 S h1) tw_1088 tw_1090 tw_48 tw_81 tw_1091 (by decide +kernel) rfl (by decide : 41 < 56) rfl rfl hfr hlo hst rfl d (K _ _ h2)
set_option maxRecDepth 100000 in
theorem p_X12_judgeOrder_64 {X : jX} {D : va_G} {ad : Nat → Nat} {cy : Nat → ClassId} (C : jC X (jMain D ad cy) RX12 cX12_judgeOrder (none) 3 0 0) {z : jS} (Q : jRet X (jMain D ad cy) (none, z)) {g : Int32 → Int32 → jS → Option (jS)} (hg : ∀ (x1 : Int32) (x2 : Int32) (S : jS), g x1 x2 S = some z → jJ X (jMain D ad cy) 4 [(0, .ref (ad 41)), (1, .int x1), (2, .int x2)] [] S) {k71 : Int32 → jS → Option (jS)} (hk71 : ∀ (x1 : Int32) (S : jS), k71 x1 S = some z → jJ X (jMain D ad cy) 71 [(0, .ref (ad 41)), (1, .int x1)] [] S) (a0 : Int32) (a1 : Int32) (x1 : Int32) (x2 : Int32) (S : jS) (hE : f_X12_judgeOrder_64  g k71 a0 a1 x1 x2 S = some z) : jJ X (jMain D ad cy) 64 [(0, .ref (ad 41)), (1, .int x1), (2, .int x2)] [.int a0, .int a1, .ref (ad 49)] S := by
  unfold f_X12_judgeOrder_64 at hE
  refine s_49 C dX12_judgeOrder_64 hE (fun S1 hE => ?_)
  refine j_iinc (v := (x2 + 1)) (lv' := [(2, .int (x2 + 1)), (0, .ref (ad 41)), (1, .int x1)]) C dX12_judgeOrder_65 2 rfl (congrArg (fun w => x2 + w) jc_ic_1) (by decide) rfl ?_
  refine j_goto (tgt := 4) C dX12_judgeOrder_68 rfl ?_
  refine j_sub [1, 2, 0] rfl ?_
  exact hg x1 (x2 + 1) S1 hE
set_option maxRecDepth 100000 in
theorem p_X12_judgeOrder_35 {X : jX} {D : va_G} {ad : Nat → Nat} {cy : Nat → ClassId} (C : jC X (jMain D ad cy) RX12 cX12_judgeOrder (none) 3 0 0) {z : jS} (Q : jRet X (jMain D ad cy) (none, z)) {g : Int32 → Int32 → jS → Option (jS)} (hg : ∀ (x1 : Int32) (x2 : Int32) (S : jS), g x1 x2 S = some z → jJ X (jMain D ad cy) 4 [(0, .ref (ad 41)), (1, .int x1), (2, .int x2)] [] S) {k71 : Int32 → jS → Option (jS)} (hk71 : ∀ (x1 : Int32) (S : jS), k71 x1 S = some z → jJ X (jMain D ad cy) 71 [(0, .ref (ad 41)), (1, .int x1)] [] S) (a0 : Int32) (a1 : Int32) (x2 : Int32) (S : jS) (hE : f_X12_judgeOrder_35  g k71 a0 a1 x2 S = some z) : jJ X (jMain D ad cy) 35 [(0, .ref (ad 41)), (2, .int x2)] [.int a0, .int a1] S := by
  unfold f_X12_judgeOrder_35 at hE
  refine j_iadd C dX12_judgeOrder_35 ?_
  refine j_istore_n (i := 1) (lv' := [(1, .int (a1 + a0)), (0, .ref (ad 41)), (2, .int x2)]) C dX12_judgeOrder_36 rfl (by decide) rfl ?_
  refine j_aload_n C dX12_judgeOrder_37 1 rfl ?_
  refine g_X12_36_41 C dX12_judgeOrder_38 ?_
  refine j_iload_n C dX12_judgeOrder_41 2 rfl ?_
  refine j_aload_n C dX12_judgeOrder_42 1 rfl ?_
  refine g_X12_143_41 C dX12_judgeOrder_43 ?_
  refine j_if_ne (tgt := 58) C dX12_judgeOrder_46 rfl hE (fun hE => ?_) (fun hE => ?_)
  · refine j_aload_n C dX12_judgeOrder_58 1 rfl ?_
    refine g_X12_36_41 C dX12_judgeOrder_59 ?_
    refine j_iload_n C dX12_judgeOrder_62 2 rfl ?_
    refine l_49 C dX12_judgeOrder_63 hE (fun v1 hE => ?_)
    refine j_sub [1, 0, 2] rfl ?_
    exact p_X12_judgeOrder_64 C Q hg hk71 v1 x2 (a1 + a0) x2 S hE
  · refine j_aload_n C dX12_judgeOrder_49 1 rfl ?_
    refine g_X12_30_41 C dX12_judgeOrder_50 ?_
    refine j_iload_n C dX12_judgeOrder_53 2 rfl ?_
    refine l_47 C dX12_judgeOrder_54 hE (fun v2 hE => ?_)
    refine j_goto (tgt := 64) C dX12_judgeOrder_55 rfl ?_
    refine j_sub [1, 0, 2] rfl ?_
    exact p_X12_judgeOrder_64 C Q hg hk71 v2 x2 (a1 + a0) x2 S hE
set_option maxRecDepth 100000 in
theorem p_X12_judgeOrder_34 {X : jX} {D : va_G} {ad : Nat → Nat} {cy : Nat → ClassId} (C : jC X (jMain D ad cy) RX12 cX12_judgeOrder (none) 3 0 0) {z : jS} (Q : jRet X (jMain D ad cy) (none, z)) {g : Int32 → Int32 → jS → Option (jS)} (hg : ∀ (x1 : Int32) (x2 : Int32) (S : jS), g x1 x2 S = some z → jJ X (jMain D ad cy) 4 [(0, .ref (ad 41)), (1, .int x1), (2, .int x2)] [] S) {k71 : Int32 → jS → Option (jS)} (hk71 : ∀ (x1 : Int32) (S : jS), k71 x1 S = some z → jJ X (jMain D ad cy) 71 [(0, .ref (ad 41)), (1, .int x1)] [] S) (a0 : Int32) (x2 : Int32) (S : jS) (hE : f_X12_judgeOrder_34  g k71 a0 x2 S = some z) : jJ X (jMain D ad cy) 34 [(0, .ref (ad 41)), (2, .int x2)] [.int a0] S := by
  unfold f_X12_judgeOrder_34 at hE
  refine j_iconst (v := 0) C dX12_judgeOrder_34 jc_ic_0 ?_
  exact p_X12_judgeOrder_35 C Q hg hk71 0 a0 x2 S hE
set_option maxRecDepth 100000 in
theorem p_X12_judgeOrder_4 {X : jX} {D : va_G} {ad : Nat → Nat} {cy : Nat → ClassId} (C : jC X (jMain D ad cy) RX12 cX12_judgeOrder (none) 3 0 0) {z : jS} (Q : jRet X (jMain D ad cy) (none, z)) {g : Int32 → Int32 → jS → Option (jS)} (hg : ∀ (x1 : Int32) (x2 : Int32) (S : jS), g x1 x2 S = some z → jJ X (jMain D ad cy) 4 [(0, .ref (ad 41)), (1, .int x1), (2, .int x2)] [] S) {k71 : Int32 → jS → Option (jS)} (hk71 : ∀ (x1 : Int32) (S : jS), k71 x1 S = some z → jJ X (jMain D ad cy) 71 [(0, .ref (ad 41)), (1, .int x1)] [] S) (x1 : Int32) (x2 : Int32) (S : jS) (hE : f_X12_judgeOrder_4  g k71 x1 x2 S = some z) : jJ X (jMain D ad cy) 4 [(0, .ref (ad 41)), (1, .int x1), (2, .int x2)] [] S := by
  unfold f_X12_judgeOrder_4 at hE
  refine j_iload_n C dX12_judgeOrder_4 2 rfl ?_
  refine j_bipush (v := 8) C dX12_judgeOrder_5 jc_bp_8 ?_
  refine j_icmp_ge (tgt := 71) C dX12_judgeOrder_7 rfl hE (fun hE => ?_) (fun hE => ?_)
  · refine j_sub [0, 1] rfl ?_
    exact hk71 x1 S hE
  · refine j_iload_n C dX12_judgeOrder_10 1 rfl ?_
    refine j_aload_n C dX12_judgeOrder_11 0 rfl ?_
    refine g_X12_7_41 C dX12_judgeOrder_12 ?_
    refine j_iload_n C dX12_judgeOrder_15 2 rfl ?_
    refine l_42 C dX12_judgeOrder_16 hE (fun v1 hE => ?_)
    refine j_if_le (tgt := 34) C dX12_judgeOrder_17 rfl hE (fun hE => ?_) (fun hE => ?_)
    · refine j_sub [0, 2] rfl ?_
      exact p_X12_judgeOrder_34 C Q hg hk71 x1 x2 S hE
    · refine j_aload_n C dX12_judgeOrder_20 0 rfl ?_
      refine g_X12_33_41 C dX12_judgeOrder_21 ?_
      refine j_iload_n C dX12_judgeOrder_24 2 rfl ?_
      refine l_48 C dX12_judgeOrder_25 hE (fun v2 hE => ?_)
      refine j_iload_n C dX12_judgeOrder_26 2 rfl ?_
      refine j_icmp_eq (tgt := 34) C dX12_judgeOrder_27 rfl hE (fun hE => ?_) (fun hE => ?_)
      · refine j_sub [0, 2] rfl ?_
        exact p_X12_judgeOrder_34 C Q hg hk71 x1 x2 S hE
      · refine j_iconst (v := 1) C dX12_judgeOrder_30 jc_ic_1 ?_
        refine j_goto (tgt := 35) C dX12_judgeOrder_31 rfl ?_
        refine j_sub [0, 2] rfl ?_
        exact p_X12_judgeOrder_35 C Q hg hk71 1 x1 x2 S hE
theorem q_X12_judgeOrder_4 {X : jX} {D : va_G} {ad : Nat → Nat} {cy : Nat → ClassId} (C : jC X (jMain D ad cy) RX12 cX12_judgeOrder (none) 3 0 0) {z : jS} (Q : jRet X (jMain D ad cy) (none, z)) {k71 : Int32 → jS → Option (jS)} (hk71 : ∀ (x1 : Int32) (S : jS), k71 x1 S = some z → jJ X (jMain D ad cy) 71 [(0, .ref (ad 41)), (1, .int x1)] [] S) (x1 : Int32) (x2 : Int32) (S : jS) (hE : lp_X12_judgeOrder_4  k71 x1 x2 S = some z) : jJ X (jMain D ad cy) 4 [(0, .ref (ad 41)), (1, .int x1), (2, .int x2)] [] S :=
  jloop_P (α := Int32 × Int32 × jS) (B := (fun g q => f_X12_judgeOrder_4  (fun x1 x2 S => g (x1, x2, S)) k71 q.1 q.2.1 q.2.2)) (P := fun q => jJ X (jMain D ad cy) 4 [(0, .ref (ad 41)), (1, .int q.1), (2, .int q.2.1)] [] q.2.2) (fun g q hg h => p_X12_judgeOrder_4 C Q (g := fun x1 x2 S => g (x1, x2, S)) (fun x1 x2 S h => hg (x1, x2, S) h) hk71 q.1 q.2.1 q.2.2 h) jN (x1, x2, S) hE
set_option maxRecDepth 100000 in
theorem p_X12_judgeOrder_98 {X : jX} {D : va_G} {ad : Nat → Nat} {cy : Nat → ClassId} (C : jC X (jMain D ad cy) RX12 cX12_judgeOrder (none) 3 0 0) {z : jS} (Q : jRet X (jMain D ad cy) (none, z))  (a0 : Int32) (S : jS) (hE : f_X12_judgeOrder_98   a0 S = some z) : jJ X (jMain D ad cy) 98 [] [.int a0, .ref (ad 41)] S := by
  unfold f_X12_judgeOrder_98 at hE
  refine p_X12_147_41 C dX12_judgeOrder_98 hE (fun S1 hE => ?_)
  exact j_vret C Q dX12_judgeOrder_101 hE
set_option maxRecDepth 100000 in
theorem p_X12_judgeOrder_71 {X : jX} {D : va_G} {ad : Nat → Nat} {cy : Nat → ClassId} (C : jC X (jMain D ad cy) RX12 cX12_judgeOrder (none) 3 0 0) {z : jS} (Q : jRet X (jMain D ad cy) (none, z))  (x1 : Int32) (S : jS) (hE : f_X12_judgeOrder_71   x1 S = some z) : jJ X (jMain D ad cy) 71 [(0, .ref (ad 41)), (1, .int x1)] [] S := by
  unfold f_X12_judgeOrder_71 at hE
  refine j_aload_n C dX12_judgeOrder_71 0 rfl ?_
  refine j_dup C dX12_judgeOrder_72 rfl ?_
  refine g_X12_143_41 C dX12_judgeOrder_73 ?_
  refine j_iconst (v := 1) C dX12_judgeOrder_76 jc_ic_1 ?_
  refine j_iadd C dX12_judgeOrder_77 ?_
  refine p_X12_143_41 C dX12_judgeOrder_78 hE (fun S1 hE => ?_)
  refine j_aload_n C dX12_judgeOrder_81 0 rfl ?_
  refine j_iload_n C dX12_judgeOrder_82 1 rfl ?_
  refine j_aload_n C dX12_judgeOrder_83 0 rfl ?_
  refine g_X12_147_41 C dX12_judgeOrder_84 ?_
  refine j_icmp_ge (tgt := 94) C dX12_judgeOrder_87 rfl hE (fun hE => ?_) (fun hE => ?_)
  · refine j_aload_n C dX12_judgeOrder_94 0 rfl ?_
    refine g_X12_147_41 C dX12_judgeOrder_95 ?_
    refine j_sub [] rfl ?_
    exact p_X12_judgeOrder_98 C Q  (S1.1 41 11) S1 hE
  · refine j_iload_n C dX12_judgeOrder_90 1 rfl ?_
    refine j_goto (tgt := 98) C dX12_judgeOrder_91 rfl ?_
    refine j_sub [] rfl ?_
    exact p_X12_judgeOrder_98 C Q  x1 S1 hE
set_option maxRecDepth 100000 in
theorem p_X12_judgeOrder_e {X : jX} {D : va_G} {ad : Nat → Nat} {cy : Nat → ClassId} (C : jC X (jMain D ad cy) RX12 cX12_judgeOrder (none) 3 0 0) {z : jS} (Q : jRet X (jMain D ad cy) (none, z))   (S : jS) (hE : f_X12_judgeOrder_e    S = some z) : jJ X (jMain D ad cy) 0 [(0, .ref (ad 41))] [] S := by
  unfold f_X12_judgeOrder_e at hE
  refine j_iconst (v := 0) C dX12_judgeOrder_0 jc_ic_0 ?_
  refine j_istore_n (i := 1) (lv' := [(1, .int 0), (0, .ref (ad 41))]) C dX12_judgeOrder_1 rfl (by decide) rfl ?_
  refine j_iconst (v := 0) C dX12_judgeOrder_2 jc_ic_0 ?_
  refine j_istore_n (i := 2) (lv' := [(2, .int 0), (1, .int 0), (0, .ref (ad 41))]) C dX12_judgeOrder_3 rfl (by decide) rfl ?_
  refine j_sub [2, 1, 0] rfl ?_
  exact q_X12_judgeOrder_4 C Q (p_X12_judgeOrder_71 C Q ) 0 0 S hE
theorem c_X12_judgeOrder {l : Launch} {D : va_G} {ad : Nat → Nat} {cy : Nat → ClassId} (hO : jOk (jMain D ad cy))  (S : jS) {z : jS} (hz : f_X12_judgeOrder  S = some z) : Met l yX12_judgeOrder (.code yX12_judgeOrder cX12_judgeOrder 3 (none) :: jT) { frames := 0, cells := 0, slots := 0, locals := 0 } (va_Pc [.ref (ad 41)] (jInv (jMain D ad cy) S)) (jQ (jMain D ad cy) (none, z)) 0 0 (yA (jMain D ad cy)) :=
  jMet hO (by decide +kernel) rfl (Nat.le_of_ble_eq_true rfl) (fun X _ C Q => p_X12_judgeOrder_e C Q  S hz)
theorem k_X12_151_X12_judgeOrder {X : jX} {D : va_G} {ad : Nat → Nat} {cy : Nat → ClassId} {cc : ByteArray} {ret : Option FieldType} {nL fr lo pc : Nat} {lv : List (Nat × Value)} {st : List Value} {S : jS} {β : Type} {z : β} (C : jC X (jMain D ad cy) RX12 cc ret nL fr lo)  {E : jS → Option β} (d : decode cc pc = .ok (.invokevirtual 151, 3)) (hE : jcv (f_X12_judgeOrder  S) E = some z) (hfr : 1 ≤ fr) (hlo : 22 ≤ lo) (hst : (st.map fun v => v.category).sum ≤ 8) (K : ∀ S1, E S1 = some z → jJ X (jMain D ad cy) (pc + 3) lv st S1) : jJ X (jMain D ad cy) pc lv (.ref (ad 41) :: st) S := by
  obtain ⟨v, h1, h2⟩ := jcv_some hE
  exact j_callV (k := 41) (ci := 12) (T := TX12) (N := 25) (n := 0) (As := []) C (c_X12_judgeOrder C.2.2.2.2.2.2.1  S h1) tw_1084 tw_1086 tw_47 tw_81 tw_1087 (by decide +kernel) rfl (by decide : 41 < 56) rfl rfl hfr hlo hst rfl d (K _ h2)
set_option maxRecDepth 100000 in
theorem p_X12_layOrders_13 {X : jX} {D : va_G} {ad : Nat → Nat} {cy : Nat → ClassId} (C : jC X (jMain D ad cy) RX12 cX12_layOrders (none) 2 4 93) {z : jS} (Q : jRet X (jMain D ad cy) (none, z)) {g : Int32 → jS → Option (jS)} (hg : ∀ (x1 : Int32) (S : jS), g x1 S = some z → jJ X (jMain D ad cy) 13 [(0, .ref (ad 41)), (1, .int x1)] [] S) {k39 : jS → Option (jS)} (hk39 : ∀  (S : jS), k39  S = some z → jJ X (jMain D ad cy) 39 [(0, .ref (ad 41))] [] S) (x1 : Int32) (S : jS) (hE : f_X12_layOrders_13  g k39 x1 S = some z) : jJ X (jMain D ad cy) 13 [(0, .ref (ad 41)), (1, .int x1)] [] S := by
  unfold f_X12_layOrders_13 at hE
  refine j_iload_n C dX12_layOrders_13 1 rfl ?_
  refine j_bipush (v := 8) C dX12_layOrders_14 jc_bp_8 ?_
  refine j_icmp_ge (tgt := 39) C dX12_layOrders_16 rfl hE (fun hE => ?_) (fun hE => ?_)
  · refine j_sub [0] rfl ?_
    exact hk39  S hE
  · refine j_aload_n C dX12_layOrders_19 0 rfl ?_
    refine g_X12_30_41 C dX12_layOrders_20 ?_
    refine j_iload_n C dX12_layOrders_23 1 rfl ?_
    refine j_iconst (v := 0) C dX12_layOrders_24 jc_ic_0 ?_
    refine s_47 C dX12_layOrders_25 hE (fun S1 hE => ?_)
    refine j_aload_n C dX12_layOrders_26 0 rfl ?_
    refine g_X12_33_41 C dX12_layOrders_27 ?_
    refine j_iload_n C dX12_layOrders_30 1 rfl ?_
    refine j_iconst (v := (-1)) C dX12_layOrders_31 jc_ic_m1 ?_
    refine s_48 C dX12_layOrders_32 hE (fun S2 hE => ?_)
    refine j_iinc (v := (x1 + 1)) (lv' := [(1, .int (x1 + 1)), (0, .ref (ad 41))]) C dX12_layOrders_33 1 rfl (congrArg (fun w => x1 + w) jc_ic_1) (by decide) rfl ?_
    refine j_goto (tgt := 13) C dX12_layOrders_36 rfl ?_
    refine j_sub [1, 0] rfl ?_
    exact hg (x1 + 1) S2 hE
theorem q_X12_layOrders_13 {X : jX} {D : va_G} {ad : Nat → Nat} {cy : Nat → ClassId} (C : jC X (jMain D ad cy) RX12 cX12_layOrders (none) 2 4 93) {z : jS} (Q : jRet X (jMain D ad cy) (none, z)) {k39 : jS → Option (jS)} (hk39 : ∀  (S : jS), k39  S = some z → jJ X (jMain D ad cy) 39 [(0, .ref (ad 41))] [] S) (x1 : Int32) (S : jS) (hE : lp_X12_layOrders_13  k39 x1 S = some z) : jJ X (jMain D ad cy) 13 [(0, .ref (ad 41)), (1, .int x1)] [] S :=
  jloop_P (α := Int32 × jS) (B := (fun g q => f_X12_layOrders_13  (fun x1 S => g (x1, S)) k39 q.1 q.2)) (P := fun q => jJ X (jMain D ad cy) 13 [(0, .ref (ad 41)), (1, .int q.1)] [] q.2) (fun g q hg h => p_X12_layOrders_13 C Q (g := fun x1 S => g (x1, S)) (fun x1 S h => hg (x1, S) h) hk39 q.1 q.2 h) jN (x1, S) hE
set_option maxRecDepth 100000 in
theorem p_X12_layOrders_45 {X : jX} {D : va_G} {ad : Nat → Nat} {cy : Nat → ClassId} (C : jC X (jMain D ad cy) RX12 cX12_layOrders (none) 2 4 93) {z : jS} (Q : jRet X (jMain D ad cy) (none, z)) {g : Int32 → jS → Option (jS)} (hg : ∀ (x1 : Int32) (S : jS), g x1 S = some z → jJ X (jMain D ad cy) 45 [(0, .ref (ad 41)), (1, .int x1)] [] S) {k163 : jS → Option (jS)} (hk163 : ∀  (S : jS), k163  S = some z → jJ X (jMain D ad cy) 163 [] [] S) (x1 : Int32) (S : jS) (hE : f_X12_layOrders_45  g k163 x1 S = some z) : jJ X (jMain D ad cy) 45 [(0, .ref (ad 41)), (1, .int x1)] [] S := by
  unfold f_X12_layOrders_45 at hE
  refine j_iload_n C dX12_layOrders_45 1 rfl ?_
  refine j_if_lt (tgt := 163) C dX12_layOrders_46 rfl hE (fun hE => ?_) (fun hE => ?_)
  · refine j_sub [] rfl ?_
    exact hk163  S hE
  · refine j_iload_n C dX12_layOrders_49 1 rfl ?_
    refine j_bipush (v := 8) C dX12_layOrders_50 jc_bp_8 ?_
    refine j_icmp_ne (tgt := 69) C dX12_layOrders_52 rfl hE (fun hE => ?_) (fun hE => ?_)
    · refine j_aload_n C dX12_layOrders_69 0 rfl ?_
      refine g_X12_30_41 C dX12_layOrders_70 ?_
      refine j_iload_n C dX12_layOrders_73 1 rfl ?_
      refine j_iconst (v := 0) C dX12_layOrders_74 jc_ic_0 ?_
      refine s_47 C dX12_layOrders_75 hE (fun S1 hE => ?_)
      refine j_aload_n C dX12_layOrders_76 0 rfl ?_
      refine g_X12_33_41 C dX12_layOrders_77 ?_
      refine j_iload_n C dX12_layOrders_80 1 rfl ?_
      refine j_aload_n C dX12_layOrders_81 0 rfl ?_
      refine j_iload_n C dX12_layOrders_82 1 rfl ?_
      refine j_aload_n C dX12_layOrders_83 0 rfl ?_
      refine g_X12_33_41 C dX12_layOrders_84 ?_
      refine j_iload_n C dX12_layOrders_87 1 rfl ?_
      refine l_48 C dX12_layOrders_88 hE (fun v2 hE => ?_)
      refine k_X12_157_X12_nextComer C dX12_layOrders_89 hE (Nat.le_of_ble_eq_true rfl) (Nat.le_of_ble_eq_true rfl) (Nat.le_of_ble_eq_true rfl) (fun v4 S3 hE => ?_)
      refine s_48 C dX12_layOrders_92 hE (fun S5 hE => ?_)
      refine j_aload_n C dX12_layOrders_93 0 rfl ?_
      refine g_X12_33_41 C dX12_layOrders_94 ?_
      refine j_iload_n C dX12_layOrders_97 1 rfl ?_
      refine l_48 C dX12_layOrders_98 hE (fun v6 hE => ?_)
      refine j_bipush (v := 8) C dX12_layOrders_99 jc_bp_8 ?_
      refine j_icmp_ne (tgt := 122) C dX12_layOrders_101 rfl hE (fun hE => ?_) (fun hE => ?_)
      · refine j_aload_n C dX12_layOrders_122 0 rfl ?_
        refine g_X12_30_41 C dX12_layOrders_123 ?_
        refine j_iload_n C dX12_layOrders_126 1 rfl ?_
        refine j_aload_n C dX12_layOrders_127 0 rfl ?_
        refine g_X12_7_41 C dX12_layOrders_128 ?_
        refine j_aload_n C dX12_layOrders_131 0 rfl ?_
        refine g_X12_33_41 C dX12_layOrders_132 ?_
        refine j_iload_n C dX12_layOrders_135 1 rfl ?_
        refine l_48 C dX12_layOrders_136 hE (fun v7 hE => ?_)
        refine l_42 C dX12_layOrders_137 hE (fun v8 hE => ?_)
        refine s_47 C dX12_layOrders_138 hE (fun S9 hE => ?_)
        refine j_aload_n C dX12_layOrders_139 0 rfl ?_
        refine j_iload_n C dX12_layOrders_140 1 rfl ?_
        refine j_iconst (v := 1) C dX12_layOrders_141 jc_ic_1 ?_
        refine j_iadd C dX12_layOrders_142 ?_
        refine k_X12_137_X12_nextLived C dX12_layOrders_143 hE (Nat.le_of_ble_eq_true rfl) (Nat.le_of_ble_eq_true rfl) (Nat.le_of_ble_eq_true rfl) (fun v11 S10 hE => ?_)
        refine j_istore_n (i := 1) (lv' := [(1, .int v11), (0, .ref (ad 41))]) C dX12_layOrders_146 rfl (by decide) rfl ?_
        refine j_iload_n C dX12_layOrders_147 0 rfl ?_
        refine j_bipush (v := 8) C dX12_layOrders_148 jc_bp_8 ?_
        refine j_icmp_ge (tgt := 45) C dX12_layOrders_150 rfl hE (fun hE => ?_) (fun hE => ?_)
        · refine j_sub [1, 0] rfl ?_
          exact hg v11 S10 hE
        · refine j_aload_n C dX12_layOrders_153 1 rfl ?_
          refine g_X12_33_41 C dX12_layOrders_154 ?_
          refine j_iload_n C dX12_layOrders_157 0 rfl ?_
          refine j_iconst (v := (-1)) C dX12_layOrders_158 jc_ic_m1 ?_
          refine s_48 C dX12_layOrders_159 hE (fun S12 hE => ?_)
          refine j_goto (tgt := 45) C dX12_layOrders_160 rfl ?_
          refine j_sub [1, 0] rfl ?_
          exact hg v11 S12 hE
      · refine j_aload_n C dX12_layOrders_104 0 rfl ?_
        refine g_X12_33_41 C dX12_layOrders_105 ?_
        refine j_iload_n C dX12_layOrders_108 1 rfl ?_
        refine j_iconst (v := (-1)) C dX12_layOrders_109 jc_ic_m1 ?_
        refine s_48 C dX12_layOrders_110 hE (fun S13 hE => ?_)
        refine j_aload_n C dX12_layOrders_111 0 rfl ?_
        refine j_iload_n C dX12_layOrders_112 1 rfl ?_
        refine j_iconst (v := 1) C dX12_layOrders_113 jc_ic_1 ?_
        refine j_isub C dX12_layOrders_114 ?_
        refine k_X12_154_X12_lastLived C dX12_layOrders_115 hE (Nat.le_of_ble_eq_true rfl) (Nat.le_of_ble_eq_true rfl) (Nat.le_of_ble_eq_true rfl) (fun v15 S14 hE => ?_)
        refine j_istore_n (i := 1) (lv' := [(1, .int v15), (0, .ref (ad 41))]) C dX12_layOrders_118 rfl (by decide) rfl ?_
        refine j_goto (tgt := 45) C dX12_layOrders_119 rfl ?_
        refine j_sub [1, 0] rfl ?_
        exact hg v15 S14 hE
    · refine j_aload_n C dX12_layOrders_55 0 rfl ?_
      refine k_X12_151_X12_judgeOrder C dX12_layOrders_56 hE (Nat.le_of_ble_eq_true rfl) (Nat.le_of_ble_eq_true rfl) (Nat.le_of_ble_eq_true rfl) (fun S16 hE => ?_)
      refine j_aload_n C dX12_layOrders_59 0 rfl ?_
      refine j_bipush (v := 7) C dX12_layOrders_60 jc_bp_7 ?_
      refine k_X12_154_X12_lastLived C dX12_layOrders_62 hE (Nat.le_of_ble_eq_true rfl) (Nat.le_of_ble_eq_true rfl) (Nat.le_of_ble_eq_true rfl) (fun v18 S17 hE => ?_)
      refine j_istore_n (i := 1) (lv' := [(1, .int v18), (0, .ref (ad 41))]) C dX12_layOrders_65 rfl (by decide) rfl ?_
      refine j_goto (tgt := 45) C dX12_layOrders_66 rfl ?_
      refine j_sub [1, 0] rfl ?_
      exact hg v18 S17 hE
theorem q_X12_layOrders_45 {X : jX} {D : va_G} {ad : Nat → Nat} {cy : Nat → ClassId} (C : jC X (jMain D ad cy) RX12 cX12_layOrders (none) 2 4 93) {z : jS} (Q : jRet X (jMain D ad cy) (none, z)) {k163 : jS → Option (jS)} (hk163 : ∀  (S : jS), k163  S = some z → jJ X (jMain D ad cy) 163 [] [] S) (x1 : Int32) (S : jS) (hE : lp_X12_layOrders_45  k163 x1 S = some z) : jJ X (jMain D ad cy) 45 [(0, .ref (ad 41)), (1, .int x1)] [] S :=
  jloop_P (α := Int32 × jS) (B := (fun g q => f_X12_layOrders_45  (fun x1 S => g (x1, S)) k163 q.1 q.2)) (P := fun q => jJ X (jMain D ad cy) 45 [(0, .ref (ad 41)), (1, .int q.1)] [] q.2) (fun g q hg h => p_X12_layOrders_45 C Q (g := fun x1 S => g (x1, S)) (fun x1 S h => hg (x1, S) h) hk163 q.1 q.2 h) jN (x1, S) hE
set_option maxRecDepth 100000 in
theorem p_X12_layOrders_163 {X : jX} {D : va_G} {ad : Nat → Nat} {cy : Nat → ClassId} (C : jC X (jMain D ad cy) RX12 cX12_layOrders (none) 2 4 93) {z : jS} (Q : jRet X (jMain D ad cy) (none, z))   (S : jS) (hE : f_X12_layOrders_163    S = some z) : jJ X (jMain D ad cy) 163 [] [] S := by
  unfold f_X12_layOrders_163 at hE
  exact j_vret C Q dX12_layOrders_163 hE
set_option maxRecDepth 100000 in
theorem p_X12_layOrders_39 {X : jX} {D : va_G} {ad : Nat → Nat} {cy : Nat → ClassId} (C : jC X (jMain D ad cy) RX12 cX12_layOrders (none) 2 4 93) {z : jS} (Q : jRet X (jMain D ad cy) (none, z))   (S : jS) (hE : f_X12_layOrders_39    S = some z) : jJ X (jMain D ad cy) 39 [(0, .ref (ad 41))] [] S := by
  unfold f_X12_layOrders_39 at hE
  refine j_aload_n C dX12_layOrders_39 0 rfl ?_
  refine j_iconst (v := 0) C dX12_layOrders_40 jc_ic_0 ?_
  refine k_X12_137_X12_nextLived C dX12_layOrders_41 hE (Nat.le_of_ble_eq_true rfl) (Nat.le_of_ble_eq_true rfl) (Nat.le_of_ble_eq_true rfl) (fun v2 S1 hE => ?_)
  refine j_istore_n (i := 1) (lv' := [(1, .int v2), (0, .ref (ad 41))]) C dX12_layOrders_44 rfl (by decide) rfl ?_
  refine j_sub [1, 0] rfl ?_
  exact q_X12_layOrders_45 C Q (p_X12_layOrders_163 C Q ) v2 S1 hE
set_option maxRecDepth 100000 in
theorem p_X12_layOrders_e {X : jX} {D : va_G} {ad : Nat → Nat} {cy : Nat → ClassId} (C : jC X (jMain D ad cy) RX12 cX12_layOrders (none) 2 4 93) {z : jS} (Q : jRet X (jMain D ad cy) (none, z))   (S : jS) (hE : f_X12_layOrders_e    S = some z) : jJ X (jMain D ad cy) 0 [(0, .ref (ad 41))] [] S := by
  unfold f_X12_layOrders_e at hE
  refine j_aload_n C dX12_layOrders_0 0 rfl ?_
  refine j_iconst (v := 0) C dX12_layOrders_1 jc_ic_0 ?_
  refine p_X12_143_41 C dX12_layOrders_2 hE (fun S1 hE => ?_)
  refine j_aload_n C dX12_layOrders_5 0 rfl ?_
  refine j_ldc (v := 1000000) C dX12_layOrders_6 tw_1079 ?_
  refine p_X12_147_41 C dX12_layOrders_8 hE (fun S2 hE => ?_)
  refine j_iconst (v := 0) C dX12_layOrders_11 jc_ic_0 ?_
  refine j_istore_n (i := 1) (lv' := [(1, .int 0), (0, .ref (ad 41))]) C dX12_layOrders_12 rfl (by decide) rfl ?_
  refine j_sub [1, 0] rfl ?_
  exact q_X12_layOrders_13 C Q (p_X12_layOrders_39 C Q ) 0 S2 hE
theorem c_X12_layOrders {l : Launch} {D : va_G} {ad : Nat → Nat} {cy : Nat → ClassId} (hO : jOk (jMain D ad cy))  (S : jS) {z : jS} (hz : f_X12_layOrders  S = some z) : Met l yX12_layOrders (.code yX12_layOrders cX12_layOrders 2 (none) :: jT) { frames := 4, cells := 0, slots := 0, locals := 93 } (va_Pc [.ref (ad 41)] (jInv (jMain D ad cy) S)) (jQ (jMain D ad cy) (none, z)) 0 0 (yA (jMain D ad cy)) :=
  jMet hO (by decide +kernel) rfl (Nat.le_of_ble_eq_true rfl) (fun X _ C Q => p_X12_layOrders_e C Q  S hz)
theorem k_X12_163_X12_layOrders {X : jX} {D : va_G} {ad : Nat → Nat} {cy : Nat → ClassId} {cc : ByteArray} {ret : Option FieldType} {nL fr lo pc : Nat} {lv : List (Nat × Value)} {st : List Value} {S : jS} {β : Type} {z : β} (C : jC X (jMain D ad cy) RX12 cc ret nL fr lo)  {E : jS → Option β} (d : decode cc pc = .ok (.invokevirtual 163, 3)) (hE : jcv (f_X12_layOrders  S) E = some z) (hfr : 5 ≤ fr) (hlo : 114 ≤ lo) (hst : (st.map fun v => v.category).sum ≤ 8) (K : ∀ S1, E S1 = some z → jJ X (jMain D ad cy) (pc + 3) lv st S1) : jJ X (jMain D ad cy) pc lv (.ref (ad 41) :: st) S := by
  obtain ⟨v, h1, h2⟩ := jcv_some hE
  exact j_callV (k := 41) (ci := 12) (T := TX12) (N := 25) (n := 0) (As := []) C (c_X12_layOrders C.2.2.2.2.2.2.1  S h1) tw_1075 tw_1077 tw_45 tw_81 tw_1078 (by decide +kernel) rfl (by decide : 41 < 56) rfl rfl hfr hlo hst rfl d (K _ h2)
set_option maxRecDepth 100000 in
theorem p_X12_orders_54 {X : jX} {D : va_G} {ad : Nat → Nat} {cy : Nat → ClassId} (C : jC X (jMain D ad cy) RX12 cX12_orders (some .int) 2 5 114) {z : Int32 × jS} (Q : jRet X (jMain D ad cy) (some (.int z.1), z.2))  (a0 : Int32) (S : jS) (hE : f_X12_orders_54   a0 S = some z) : jJ X (jMain D ad cy) 54 [] [.int a0] S := by
  unfold f_X12_orders_54 at hE
  exact j_iret C Q dX12_orders_54 hE
set_option maxRecDepth 100000 in
theorem p_X12_orders_e {X : jX} {D : va_G} {ad : Nat → Nat} {cy : Nat → ClassId} (C : jC X (jMain D ad cy) RX12 cX12_orders (some .int) 2 5 114) {z : Int32 × jS} (Q : jRet X (jMain D ad cy) (some (.int z.1), z.2))  (x1 : Int32) (S : jS) (hE : f_X12_orders_e   x1 S = some z) : jJ X (jMain D ad cy) 0 [(0, .ref (ad 41)), (1, .int x1)] [] S := by
  unfold f_X12_orders_e at hE
  refine j_iload_n C dX12_orders_0 1 rfl ?_
  refine j_i2l C dX12_orders_1 ?_
  refine j_ldc2 (v := (-1)) C dX12_orders_2 tw_1074 ?_
  refine j_ldc2 (v := 7) C dX12_orders_5 tw_994 ?_
  refine k_X12_59_X12_in C dX12_orders_8 hE (Nat.le_of_ble_eq_true rfl) (Nat.le_of_ble_eq_true rfl) (Nat.le_of_ble_eq_true rfl) (fun v2 S1 hE => ?_)
  refine j_if_ne (tgt := 21) C dX12_orders_11 rfl hE (fun hE => ?_) (fun hE => ?_)
  · refine j_aload_n C dX12_orders_21 0 rfl ?_
    refine k_X12_163_X12_layOrders C dX12_orders_22 hE (Nat.le_of_ble_eq_true rfl) (Nat.le_of_ble_eq_true rfl) (Nat.le_of_ble_eq_true rfl) (fun S3 hE => ?_)
    refine j_iload_n C dX12_orders_25 1 rfl ?_
    refine j_iconst (v := (-1)) C dX12_orders_26 jc_ic_m1 ?_
    refine j_icmp_ne (tgt := 37) C dX12_orders_27 rfl hE (fun hE => ?_) (fun hE => ?_)
    · refine j_aload_n C dX12_orders_37 0 rfl ?_
      refine g_X12_143_41 C dX12_orders_38 ?_
      refine j_if_ne (tgt := 48) C dX12_orders_41 rfl hE (fun hE => ?_) (fun hE => ?_)
      · refine j_aload_n C dX12_orders_48 0 rfl ?_
        refine g_X12_36_41 C dX12_orders_49 ?_
        refine j_iload_n C dX12_orders_52 1 rfl ?_
        refine l_49 C dX12_orders_53 hE (fun v4 hE => ?_)
        refine j_sub [] rfl ?_
        exact p_X12_orders_54 C Q  v4 S3 hE
      · refine j_iconst (v := (-1)) C dX12_orders_44 jc_ic_m1 ?_
        refine j_goto (tgt := 54) C dX12_orders_45 rfl ?_
        refine j_sub [] rfl ?_
        exact p_X12_orders_54 C Q  (-1) S3 hE
    · refine j_aload_n C dX12_orders_30 0 rfl ?_
      refine g_X12_143_41 C dX12_orders_31 ?_
      refine j_goto (tgt := 54) C dX12_orders_34 rfl ?_
      refine j_sub [] rfl ?_
      exact p_X12_orders_54 C Q  (S3.1 41 10) S3 hE
  · refine j_aload_n C dX12_orders_14 0 rfl ?_
    refine j_bipush (v := (-10)) C dX12_orders_15 jc_bp_m10 ?_
    refine k_X12_87_X12_bad C dX12_orders_17 hE (Nat.le_of_ble_eq_true rfl) (Nat.le_of_ble_eq_true rfl) (Nat.le_of_ble_eq_true rfl) (fun v6 S5 hE => ?_)
    exact j_iret C Q dX12_orders_20 hE
theorem c_X12_orders {l : Launch} {D : va_G} {ad : Nat → Nat} {cy : Nat → ClassId} (hO : jOk (jMain D ad cy)) (x1 : Int32) (S : jS) {z : Int32 × jS} (hz : f_X12_orders x1 S = some z) : Met l yX12_orders (.code yX12_orders cX12_orders 2 (some .int) :: jT) { frames := 5, cells := 0, slots := 0, locals := 114 } (va_Pc [.ref (ad 41), .int x1] (jInv (jMain D ad cy) S)) (jQ (jMain D ad cy) (some (.int z.1), z.2)) 0 0 (yA (jMain D ad cy)) :=
  jMet hO (by decide +kernel) rfl (Nat.le_of_ble_eq_true rfl) (fun X _ C Q => p_X12_orders_e C Q x1 S hz)
set_option maxRecDepth 100000 in
theorem p_X4_gather_r22_57 {X : jX} {D : va_G} {ad : Nat → Nat} {cy : Nat → ClassId} (C : jC X (jMain D ad cy) RX4 cX4_gather (none) 3 0 0) {z : jS} (Q : jRet X (jMain D ad cy) (none, z)) {g : Int32 → jS → Option (jS)} (hg : ∀ (x2 : Int32) (S : jS), g x2 S = some z → jJ X (jMain D ad cy) 7 [(0, .ref (ad 12)), (1, .ref (ad 22)), (2, .int x2)] [] S) {k63 : jS → Option (jS)} (hk63 : ∀  (S : jS), k63  S = some z → jJ X (jMain D ad cy) 63 [] [] S) (x2 : Int32) (S : jS) (hE : f_X4_gather_r22_57  g k63 x2 S = some z) : jJ X (jMain D ad cy) 57 [(0, .ref (ad 12)), (1, .ref (ad 22)), (2, .int x2)] [] S := by
  unfold f_X4_gather_r22_57 at hE
  refine j_iinc (v := (x2 + 1)) (lv' := [(2, .int (x2 + 1)), (0, .ref (ad 12)), (1, .ref (ad 22))]) C dX4_gather_57 2 rfl (congrArg (fun w => x2 + w) jc_ic_1) (by decide) rfl ?_
  refine j_goto (tgt := 7) C dX4_gather_60 rfl ?_
  refine j_sub [1, 2, 0] rfl ?_
  exact hg (x2 + 1) S hE
set_option maxRecDepth 100000 in
theorem p_X4_gather_r22_7 {X : jX} {D : va_G} {ad : Nat → Nat} {cy : Nat → ClassId} (C : jC X (jMain D ad cy) RX4 cX4_gather (none) 3 0 0) {z : jS} (Q : jRet X (jMain D ad cy) (none, z)) {g : Int32 → jS → Option (jS)} (hg : ∀ (x2 : Int32) (S : jS), g x2 S = some z → jJ X (jMain D ad cy) 7 [(0, .ref (ad 12)), (1, .ref (ad 22)), (2, .int x2)] [] S) {k63 : jS → Option (jS)} (hk63 : ∀  (S : jS), k63  S = some z → jJ X (jMain D ad cy) 63 [] [] S) (x2 : Int32) (S : jS) (hE : f_X4_gather_r22_7  g k63 x2 S = some z) : jJ X (jMain D ad cy) 7 [(0, .ref (ad 12)), (1, .ref (ad 22)), (2, .int x2)] [] S := by
  unfold f_X4_gather_r22_7 at hE
  refine j_iload_n C dX4_gather_7 2 rfl ?_
  refine j_aload_n C dX4_gather_8 1 rfl ?_
  refine n_22 C dX4_gather_9 ?_
  refine j_icmp_ge (tgt := 63) C dX4_gather_10 rfl hE (fun hE => ?_) (fun hE => ?_)
  · refine j_sub [] rfl ?_
    exact hk63  S hE
  · refine j_iload_n C dX4_gather_13 2 rfl ?_
    refine j_bipush (v := 8) C dX4_gather_14 jc_bp_8 ?_
    refine j_icmp_ge (tgt := 63) C dX4_gather_16 rfl hE (fun hE => ?_) (fun hE => ?_)
    · refine j_sub [] rfl ?_
      exact hk63  S hE
    · refine j_aload_n C dX4_gather_19 1 rfl ?_
      refine j_iload_n C dX4_gather_20 2 rfl ?_
      refine l_22 C dX4_gather_21 hE (fun v1 hE => ?_)
      refine j_if_le (tgt := 57) C dX4_gather_22 rfl hE (fun hE => ?_) (fun hE => ?_)
      · exact p_X4_gather_r22_57 C Q hg hk63 x2 S hE
      · refine j_aload_n C dX4_gather_25 0 rfl ?_
        refine g_X4_15_12 C dX4_gather_26 ?_
        refine j_aload_n C dX4_gather_29 0 rfl ?_
        refine g_X4_41_12 C dX4_gather_30 ?_
        refine j_iload_n C dX4_gather_33 2 rfl ?_
        refine s_14 C dX4_gather_34 hE (fun S2 hE => ?_)
        refine j_aload_n C dX4_gather_35 0 rfl ?_
        refine g_X4_9_12 C dX4_gather_36 ?_
        refine j_aload_n C dX4_gather_39 0 rfl ?_
        refine g_X4_41_12 C dX4_gather_40 ?_
        refine j_aload_n C dX4_gather_43 1 rfl ?_
        refine j_iload_n C dX4_gather_44 2 rfl ?_
        refine l_22 C dX4_gather_45 hE (fun v3 hE => ?_)
        refine s_13 C dX4_gather_46 hE (fun S4 hE => ?_)
        refine j_aload_n C dX4_gather_47 0 rfl ?_
        refine j_dup C dX4_gather_48 rfl ?_
        refine g_X4_41_12 C dX4_gather_49 ?_
        refine j_iconst (v := 1) C dX4_gather_52 jc_ic_1 ?_
        refine j_iadd C dX4_gather_53 ?_
        refine p_X4_41_12 C dX4_gather_54 hE (fun S5 hE => ?_)
        exact p_X4_gather_r22_57 C Q hg hk63 x2 S5 hE
theorem q_X4_gather_r22_7 {X : jX} {D : va_G} {ad : Nat → Nat} {cy : Nat → ClassId} (C : jC X (jMain D ad cy) RX4 cX4_gather (none) 3 0 0) {z : jS} (Q : jRet X (jMain D ad cy) (none, z)) {k63 : jS → Option (jS)} (hk63 : ∀  (S : jS), k63  S = some z → jJ X (jMain D ad cy) 63 [] [] S) (x2 : Int32) (S : jS) (hE : lp_X4_gather_r22_7  k63 x2 S = some z) : jJ X (jMain D ad cy) 7 [(0, .ref (ad 12)), (1, .ref (ad 22)), (2, .int x2)] [] S :=
  jloop_P (α := Int32 × jS) (B := (fun g q => f_X4_gather_r22_7  (fun x2 S => g (x2, S)) k63 q.1 q.2)) (P := fun q => jJ X (jMain D ad cy) 7 [(0, .ref (ad 12)), (1, .ref (ad 22)), (2, .int q.1)] [] q.2) (fun g q hg h => p_X4_gather_r22_7 C Q (g := fun x2 S => g (x2, S)) (fun x2 S h => hg (x2, S) h) hk63 q.1 q.2 h) jN (x2, S) hE
set_option maxRecDepth 100000 in
theorem p_X4_gather_r22_63 {X : jX} {D : va_G} {ad : Nat → Nat} {cy : Nat → ClassId} (C : jC X (jMain D ad cy) RX4 cX4_gather (none) 3 0 0) {z : jS} (Q : jRet X (jMain D ad cy) (none, z))   (S : jS) (hE : f_X4_gather_r22_63    S = some z) : jJ X (jMain D ad cy) 63 [] [] S := by
  unfold f_X4_gather_r22_63 at hE
  exact j_vret C Q dX4_gather_63 hE
set_option maxRecDepth 100000 in
theorem p_X4_gather_r22_e {X : jX} {D : va_G} {ad : Nat → Nat} {cy : Nat → ClassId} (C : jC X (jMain D ad cy) RX4 cX4_gather (none) 3 0 0) {z : jS} (Q : jRet X (jMain D ad cy) (none, z))   (S : jS) (hE : f_X4_gather_r22_e    S = some z) : jJ X (jMain D ad cy) 0 [(0, .ref (ad 12)), (1, .ref (ad 22))] [] S := by
  unfold f_X4_gather_r22_e at hE
  refine j_aload_n C dX4_gather_0 0 rfl ?_
  refine j_iconst (v := 0) C dX4_gather_1 jc_ic_0 ?_
  refine p_X4_41_12 C dX4_gather_2 hE (fun S1 hE => ?_)
  refine j_iconst (v := 0) C dX4_gather_5 jc_ic_0 ?_
  refine j_istore_n (i := 2) (lv' := [(2, .int 0), (0, .ref (ad 12)), (1, .ref (ad 22))]) C dX4_gather_6 rfl (by decide) rfl ?_
  refine j_sub [1, 2, 0] rfl ?_
  exact q_X4_gather_r22_7 C Q (p_X4_gather_r22_63 C Q ) 0 S1 hE
theorem c_X4_gather_r22 {l : Launch} {D : va_G} {ad : Nat → Nat} {cy : Nat → ClassId} (hO : jOk (jMain D ad cy))  (S : jS) {z : jS} (hz : f_X4_gather_r22  S = some z) : Met l yX4_gather (.code yX4_gather cX4_gather 3 (none) :: jT) { frames := 0, cells := 0, slots := 0, locals := 0 } (va_Pc [.ref (ad 12), .ref (ad 22)] (jInv (jMain D ad cy) S)) (jQ (jMain D ad cy) (none, z)) 0 0 (yA (jMain D ad cy)) :=
  jMet hO (by decide +kernel) rfl (Nat.le_of_ble_eq_true rfl) (fun X _ C Q => p_X4_gather_r22_e C Q  S hz)
theorem k_X4_37_X4_gather_r22 {X : jX} {D : va_G} {ad : Nat → Nat} {cy : Nat → ClassId} {cc : ByteArray} {ret : Option FieldType} {nL fr lo pc : Nat} {lv : List (Nat × Value)} {st : List Value} {S : jS} {β : Type} {z : β} (C : jC X (jMain D ad cy) RX4 cc ret nL fr lo)  {E : jS → Option β} (d : decode cc pc = .ok (.invokevirtual 37, 3)) (hE : jcv (f_X4_gather_r22  S) E = some z) (hfr : 1 ≤ fr) (hlo : 22 ≤ lo) (hst : (st.map fun v => v.category).sum ≤ 8) (K : ∀ S1, E S1 = some z → jJ X (jMain D ad cy) (pc + 3) lv st S1) : jJ X (jMain D ad cy) pc lv (.ref (ad 22) :: .ref (ad 12) :: st) S := by
  obtain ⟨v, h1, h2⟩ := jcv_some hE
  exact j_callV (k := 12) (ci := 4) (T := TX4) (N := 7) (n := 1) (As := [.ref (ad 22)]) C (c_X4_gather_r22 C.2.2.2.2.2.2.1  S h1) tw_626 tw_628 tw_14 tw_78 tw_629 (by decide +kernel) rfl (by decide : 12 < 56) rfl rfl hfr hlo hst rfl d (K _ h2)
set_option maxRecDepth 100000 in
theorem p_X4_settle_r22_71 {X : jX} {D : va_G} {ad : Nat → Nat} {cy : Nat → ClassId} (C : jC X (jMain D ad cy) RX4 cX4_settle (none) 5 4 95) {z : jS} (Q : jRet X (jMain D ad cy) (none, z)) {g : Int32 → Int32 → Int32 → jS → Option (jS)} (hg : ∀ (x1 : Int32) (x3 : Int32) (x4 : Int32) (S : jS), g x1 x3 x4 S = some z → jJ X (jMain D ad cy) 25 [(0, .ref (ad 12)), (1, .int x1), (3, .int x3), (4, .int x4)] [] S) {k77 : Int32 → Int32 → jS → Option (jS)} (hk77 : ∀ (x1 : Int32) (x3 : Int32) (S : jS), k77 x1 x3 S = some z → jJ X (jMain D ad cy) 77 [(0, .ref (ad 12)), (1, .int x1), (3, .int x3)] [] S) (x1 : Int32) (x3 : Int32) (x4 : Int32) (S : jS) (hE : f_X4_settle_r22_71  g k77 x1 x3 x4 S = some z) : jJ X (jMain D ad cy) 71 [(0, .ref (ad 12)), (1, .int x1), (3, .int x3), (4, .int x4)] [] S := by
  unfold f_X4_settle_r22_71 at hE
  refine j_iinc (v := (x4 + 1)) (lv' := [(4, .int (x4 + 1)), (0, .ref (ad 12)), (1, .int x1), (3, .int x3)]) C dX4_settle_71 3 rfl (congrArg (fun w => x4 + w) jc_ic_1) (by decide) rfl ?_
  refine j_goto (tgt := 25) C dX4_settle_74 rfl ?_
  refine j_sub [1, 2, 3, 0] rfl ?_
  exact hg x1 x3 (x4 + 1) S hE
set_option maxRecDepth 100000 in
theorem p_X4_settle_r22_25 {X : jX} {D : va_G} {ad : Nat → Nat} {cy : Nat → ClassId} (C : jC X (jMain D ad cy) RX4 cX4_settle (none) 5 4 95) {z : jS} (Q : jRet X (jMain D ad cy) (none, z)) {g : Int32 → Int32 → Int32 → jS → Option (jS)} (hg : ∀ (x1 : Int32) (x3 : Int32) (x4 : Int32) (S : jS), g x1 x3 x4 S = some z → jJ X (jMain D ad cy) 25 [(0, .ref (ad 12)), (1, .int x1), (3, .int x3), (4, .int x4)] [] S) {k77 : Int32 → Int32 → jS → Option (jS)} (hk77 : ∀ (x1 : Int32) (x3 : Int32) (S : jS), k77 x1 x3 S = some z → jJ X (jMain D ad cy) 77 [(0, .ref (ad 12)), (1, .int x1), (3, .int x3)] [] S) (x1 : Int32) (x3 : Int32) (x4 : Int32) (S : jS) (hE : f_X4_settle_r22_25  g k77 x1 x3 x4 S = some z) : jJ X (jMain D ad cy) 25 [(0, .ref (ad 12)), (1, .int x1), (3, .int x3), (4, .int x4)] [] S := by
  unfold f_X4_settle_r22_25 at hE
  refine j_iload C dX4_settle_25 3 rfl ?_
  refine j_aload_n C dX4_settle_27 0 rfl ?_
  refine g_X4_41_12 C dX4_settle_28 ?_
  refine j_icmp_ge (tgt := 77) C dX4_settle_31 rfl hE (fun hE => ?_) (fun hE => ?_)
  · refine j_sub [0, 1, 2] rfl ?_
    exact hk77 x1 x3 S hE
  · refine j_aload_n C dX4_settle_34 0 rfl ?_
    refine g_X4_27_12 C dX4_settle_35 ?_
    refine j_iload_n C dX4_settle_38 1 rfl ?_
    refine j_aload_n C dX4_settle_39 0 rfl ?_
    refine g_X4_9_12 C dX4_settle_40 ?_
    refine j_iload_n C dX4_settle_43 2 rfl ?_
    refine l_13 C dX4_settle_44 hE (fun v1 hE => ?_)
    refine j_aload_n C dX4_settle_45 0 rfl ?_
    refine g_X4_9_12 C dX4_settle_46 ?_
    refine j_iload C dX4_settle_49 3 rfl ?_
    refine l_13 C dX4_settle_51 hE (fun v2 hE => ?_)
    refine k_X4_45_X2_allows C dX4_settle_52 hE (Nat.le_of_ble_eq_true rfl) (Nat.le_of_ble_eq_true rfl) (Nat.le_of_ble_eq_true rfl) (fun v4 S3 hE => ?_)
    refine j_if_eq (tgt := 71) C dX4_settle_55 rfl hE (fun hE => ?_) (fun hE => ?_)
    · exact p_X4_settle_r22_71 C Q hg hk77 x1 x3 x4 S3 hE
    · refine j_aload_n C dX4_settle_58 0 rfl ?_
      refine g_X4_18_12 C dX4_settle_59 ?_
      refine j_iload_n C dX4_settle_62 2 rfl ?_
      refine j_dup2 C dX4_settle_63 rfl rfl ?_
      refine l_15 C dX4_settle_64 hE (fun v5 hE => ?_)
      refine j_iconst (v := 1) C dX4_settle_65 jc_ic_1 ?_
      refine j_iload C dX4_settle_66 3 rfl ?_
      refine j_ishl C dX4_settle_68 ?_
      refine j_ior C dX4_settle_69 ?_
      refine s_15 C dX4_settle_70 hE (fun S6 hE => ?_)
      exact p_X4_settle_r22_71 C Q hg hk77 x1 x3 x4 S6 hE
theorem q_X4_settle_r22_25 {X : jX} {D : va_G} {ad : Nat → Nat} {cy : Nat → ClassId} (C : jC X (jMain D ad cy) RX4 cX4_settle (none) 5 4 95) {z : jS} (Q : jRet X (jMain D ad cy) (none, z)) {k77 : Int32 → Int32 → jS → Option (jS)} (hk77 : ∀ (x1 : Int32) (x3 : Int32) (S : jS), k77 x1 x3 S = some z → jJ X (jMain D ad cy) 77 [(0, .ref (ad 12)), (1, .int x1), (3, .int x3)] [] S) (x1 : Int32) (x3 : Int32) (x4 : Int32) (S : jS) (hE : lp_X4_settle_r22_25  k77 x1 x3 x4 S = some z) : jJ X (jMain D ad cy) 25 [(0, .ref (ad 12)), (1, .int x1), (3, .int x3), (4, .int x4)] [] S :=
  jloop_P (α := Int32 × Int32 × Int32 × jS) (B := (fun g q => f_X4_settle_r22_25  (fun x1 x3 x4 S => g (x1, x3, x4, S)) k77 q.1 q.2.1 q.2.2.1 q.2.2.2)) (P := fun q => jJ X (jMain D ad cy) 25 [(0, .ref (ad 12)), (1, .int q.1), (3, .int q.2.1), (4, .int q.2.2.1)] [] q.2.2.2) (fun g q hg h => p_X4_settle_r22_25 C Q (g := fun x1 x3 x4 S => g (x1, x3, x4, S)) (fun x1 x3 x4 S h => hg (x1, x3, x4, S) h) hk77 q.1 q.2.1 q.2.2.1 q.2.2.2 h) jN (x1, x3, x4, S) hE
set_option maxRecDepth 100000 in
theorem p_X4_settle_r22_77 {X : jX} {D : va_G} {ad : Nat → Nat} {cy : Nat → ClassId} (C : jC X (jMain D ad cy) RX4 cX4_settle (none) 5 4 95) {z : jS} (Q : jRet X (jMain D ad cy) (none, z)) {g : Int32 → Int32 → jS → Option (jS)} (hg : ∀ (x1 : Int32) (x3 : Int32) (S : jS), g x1 x3 S = some z → jJ X (jMain D ad cy) 7 [(0, .ref (ad 12)), (1, .int x1), (3, .int x3)] [] S) {k83 : jS → Option (jS)} (hk83 : ∀  (S : jS), k83  S = some z → jJ X (jMain D ad cy) 83 [] [] S) (x1 : Int32) (x3 : Int32) (S : jS) (hE : f_X4_settle_r22_77  g k83 x1 x3 S = some z) : jJ X (jMain D ad cy) 77 [(0, .ref (ad 12)), (1, .int x1), (3, .int x3)] [] S := by
  unfold f_X4_settle_r22_77 at hE
  refine j_iinc (v := (x3 + 1)) (lv' := [(3, .int (x3 + 1)), (0, .ref (ad 12)), (1, .int x1)]) C dX4_settle_77 2 rfl (congrArg (fun w => x3 + w) jc_ic_1) (by decide) rfl ?_
  refine j_goto (tgt := 7) C dX4_settle_80 rfl ?_
  refine j_sub [1, 2, 0] rfl ?_
  exact hg x1 (x3 + 1) S hE
set_option maxRecDepth 100000 in
theorem p_X4_settle_r22_7 {X : jX} {D : va_G} {ad : Nat → Nat} {cy : Nat → ClassId} (C : jC X (jMain D ad cy) RX4 cX4_settle (none) 5 4 95) {z : jS} (Q : jRet X (jMain D ad cy) (none, z)) {g : Int32 → Int32 → jS → Option (jS)} (hg : ∀ (x1 : Int32) (x3 : Int32) (S : jS), g x1 x3 S = some z → jJ X (jMain D ad cy) 7 [(0, .ref (ad 12)), (1, .int x1), (3, .int x3)] [] S) {k83 : jS → Option (jS)} (hk83 : ∀  (S : jS), k83  S = some z → jJ X (jMain D ad cy) 83 [] [] S) (x1 : Int32) (x3 : Int32) (S : jS) (hE : f_X4_settle_r22_7  g k83 x1 x3 S = some z) : jJ X (jMain D ad cy) 7 [(0, .ref (ad 12)), (1, .int x1), (3, .int x3)] [] S := by
  unfold f_X4_settle_r22_7 at hE
  refine j_iload_n C dX4_settle_7 2 rfl ?_
  refine j_aload_n C dX4_settle_8 0 rfl ?_
  refine g_X4_41_12 C dX4_settle_9 ?_
  refine j_icmp_ge (tgt := 83) C dX4_settle_12 rfl hE (fun hE => ?_) (fun hE => ?_)
  · refine j_sub [] rfl ?_
    exact hk83  S hE
  · refine j_aload_n C dX4_settle_15 0 rfl ?_
    refine g_X4_18_12 C dX4_settle_16 ?_
    refine j_iload_n C dX4_settle_19 2 rfl ?_
    refine j_iconst (v := 0) C dX4_settle_20 jc_ic_0 ?_
    refine s_15 C dX4_settle_21 hE (fun S1 hE => ?_)
    refine j_iconst (v := 0) C dX4_settle_22 jc_ic_0 ?_
    refine j_istore (lv' := [(4, .int 0), (0, .ref (ad 12)), (1, .int x1), (3, .int x3)]) C dX4_settle_23 (by decide) rfl ?_
    refine j_sub [1, 2, 3, 0] rfl ?_
    exact q_X4_settle_r22_25 C Q (p_X4_settle_r22_77 C Q hg hk83) x1 x3 0 S1 hE
theorem q_X4_settle_r22_7 {X : jX} {D : va_G} {ad : Nat → Nat} {cy : Nat → ClassId} (C : jC X (jMain D ad cy) RX4 cX4_settle (none) 5 4 95) {z : jS} (Q : jRet X (jMain D ad cy) (none, z)) {k83 : jS → Option (jS)} (hk83 : ∀  (S : jS), k83  S = some z → jJ X (jMain D ad cy) 83 [] [] S) (x1 : Int32) (x3 : Int32) (S : jS) (hE : lp_X4_settle_r22_7  k83 x1 x3 S = some z) : jJ X (jMain D ad cy) 7 [(0, .ref (ad 12)), (1, .int x1), (3, .int x3)] [] S :=
  jloop_P (α := Int32 × Int32 × jS) (B := (fun g q => f_X4_settle_r22_7  (fun x1 x3 S => g (x1, x3, S)) k83 q.1 q.2.1 q.2.2)) (P := fun q => jJ X (jMain D ad cy) 7 [(0, .ref (ad 12)), (1, .int q.1), (3, .int q.2.1)] [] q.2.2) (fun g q hg h => p_X4_settle_r22_7 C Q (g := fun x1 x3 S => g (x1, x3, S)) (fun x1 x3 S h => hg (x1, x3, S) h) hk83 q.1 q.2.1 q.2.2 h) jN (x1, x3, S) hE
set_option maxRecDepth 100000 in
theorem p_X4_settle_r22_83 {X : jX} {D : va_G} {ad : Nat → Nat} {cy : Nat → ClassId} (C : jC X (jMain D ad cy) RX4 cX4_settle (none) 5 4 95) {z : jS} (Q : jRet X (jMain D ad cy) (none, z))   (S : jS) (hE : f_X4_settle_r22_83    S = some z) : jJ X (jMain D ad cy) 83 [] [] S := by
  unfold f_X4_settle_r22_83 at hE
  exact j_vret C Q dX4_settle_83 hE
set_option maxRecDepth 100000 in
theorem p_X4_settle_r22_e {X : jX} {D : va_G} {ad : Nat → Nat} {cy : Nat → ClassId} (C : jC X (jMain D ad cy) RX4 cX4_settle (none) 5 4 95) {z : jS} (Q : jRet X (jMain D ad cy) (none, z))  (x1 : Int32) (S : jS) (hE : f_X4_settle_r22_e   x1 S = some z) : jJ X (jMain D ad cy) 0 [(0, .ref (ad 12)), (1, .int x1), (2, .ref (ad 22))] [] S := by
  unfold f_X4_settle_r22_e at hE
  refine j_aload_n C dX4_settle_0 0 rfl ?_
  refine j_aload_n C dX4_settle_1 2 rfl ?_
  refine k_X4_37_X4_gather_r22 C dX4_settle_2 hE (Nat.le_of_ble_eq_true rfl) (Nat.le_of_ble_eq_true rfl) (Nat.le_of_ble_eq_true rfl) (fun S1 hE => ?_)
  refine j_iconst (v := 0) C dX4_settle_5 jc_ic_0 ?_
  refine j_istore_n (i := 3) (lv' := [(3, .int 0), (0, .ref (ad 12)), (1, .int x1), (2, .ref (ad 22))]) C dX4_settle_6 rfl (by decide) rfl ?_
  refine j_sub [1, 2, 0] rfl ?_
  exact q_X4_settle_r22_7 C Q (p_X4_settle_r22_83 C Q ) x1 0 S1 hE
theorem c_X4_settle_r22 {l : Launch} {D : va_G} {ad : Nat → Nat} {cy : Nat → ClassId} (hO : jOk (jMain D ad cy)) (x1 : Int32) (S : jS) {z : jS} (hz : f_X4_settle_r22 x1 S = some z) : Met l yX4_settle (.code yX4_settle cX4_settle 5 (none) :: jT) { frames := 4, cells := 0, slots := 0, locals := 95 } (va_Pc [.ref (ad 12), .int x1, .ref (ad 22)] (jInv (jMain D ad cy) S)) (jQ (jMain D ad cy) (none, z)) 0 0 (yA (jMain D ad cy)) :=
  jMet hO (by decide +kernel) rfl (Nat.le_of_ble_eq_true rfl) (fun X _ C Q => p_X4_settle_r22_e C Q x1 S hz)
theorem k_X11_174_X4_settle_r22 {X : jX} {D : va_G} {ad : Nat → Nat} {cy : Nat → ClassId} {cc : ByteArray} {ret : Option FieldType} {nL fr lo pc : Nat} {lv : List (Nat × Value)} {st : List Value} {S : jS} {β : Type} {z : β} (C : jC X (jMain D ad cy) RX11 cc ret nL fr lo) {a0 : Int32} {E : jS → Option β} (d : decode cc pc = .ok (.invokevirtual 174, 3)) (hE : jcv (f_X4_settle_r22 a0 S) E = some z) (hfr : 5 ≤ fr) (hlo : 119 ≤ lo) (hst : (st.map fun v => v.category).sum ≤ 8) (K : ∀ S1, E S1 = some z → jJ X (jMain D ad cy) (pc + 3) lv st S1) : jJ X (jMain D ad cy) pc lv (.ref (ad 22) :: .int a0 :: .ref (ad 12) :: st) S := by
  obtain ⟨v, h1, h2⟩ := jcv_some hE
  exact j_callV (k := 12) (ci := 4) (T := TX4) (N := 7) (n := 2) (As := [.int a0, .ref (ad 22)]) C (c_X4_settle_r22 C.2.2.2.2.2.2.1 a0 S h1) tw_622 tw_623 tw_624 tw_78 tw_625 (by decide +kernel) rfl (by decide : 12 < 56) rfl rfl hfr hlo hst rfl d (K _ h2)
theorem k_X4_69_X4_settle_r22 {X : jX} {D : va_G} {ad : Nat → Nat} {cy : Nat → ClassId} {cc : ByteArray} {ret : Option FieldType} {nL fr lo pc : Nat} {lv : List (Nat × Value)} {st : List Value} {S : jS} {β : Type} {z : β} (C : jC X (jMain D ad cy) RX4 cc ret nL fr lo) {a0 : Int32} {E : jS → Option β} (d : decode cc pc = .ok (.invokevirtual 69, 3)) (hE : jcv (f_X4_settle_r22 a0 S) E = some z) (hfr : 5 ≤ fr) (hlo : 119 ≤ lo) (hst : (st.map fun v => v.category).sum ≤ 8) (K : ∀ S1, E S1 = some z → jJ X (jMain D ad cy) (pc + 3) lv st S1) : jJ X (jMain D ad cy) pc lv (.ref (ad 22) :: .int a0 :: .ref (ad 12) :: st) S := by
  obtain ⟨v, h1, h2⟩ := jcv_some hE
  exact j_callV (k := 12) (ci := 4) (T := TX4) (N := 7) (n := 2) (As := [.int a0, .ref (ad 22)]) C (c_X4_settle_r22 C.2.2.2.2.2.2.1 a0 S h1) tw_674 tw_623 tw_624 tw_78 tw_625 (by decide +kernel) rfl (by decide : 12 < 56) rfl rfl hfr hlo hst rfl d (K _ h2)
set_option maxRecDepth 100000 in
theorem p_X4_comers_76 {X : jX} {D : va_G} {ad : Nat → Nat} {cy : Nat → ClassId} (C : jC X (jMain D ad cy) RX4 cX4_comers (some .int) 6 1 20) {z : Int32 × jS} (Q : jRet X (jMain D ad cy) (some (.int z.1), z.2))  (a0 : Int32) (S : jS) (hE : f_X4_comers_76   a0 S = some z) : jJ X (jMain D ad cy) 76 [] [.int a0] S := by
  unfold f_X4_comers_76 at hE
  exact j_iret C Q dX4_comers_76 hE
set_option maxRecDepth 100000 in
theorem p_X4_comers_55 {X : jX} {D : va_G} {ad : Nat → Nat} {cy : Nat → ClassId} (C : jC X (jMain D ad cy) RX4 cX4_comers (some .int) 6 1 20) {z : Int32 × jS} (Q : jRet X (jMain D ad cy) (some (.int z.1), z.2))  (a0 : Int32) (x2 : Int32) (x4 : Int32) (S : jS) (hE : f_X4_comers_55   a0 x2 x4 S = some z) : jJ X (jMain D ad cy) 55 [(0, .ref (ad 12)), (2, .int x2), (4, .int x4)] [.int a0] S := by
  unfold f_X4_comers_55 at hE
  refine j_istore (lv' := [(5, .int a0), (0, .ref (ad 12)), (2, .int x2), (4, .int x4)]) C dX4_comers_55 (by decide) rfl ?_
  refine j_iload C dX4_comers_57 0 rfl ?_
  refine j_if_eq (tgt := 74) C dX4_comers_59 rfl hE (fun hE => ?_) (fun hE => ?_)
  · refine j_iload C dX4_comers_74 3 rfl ?_
    refine j_sub [] rfl ?_
    exact p_X4_comers_76 C Q  x4 S hE
  · refine j_iload C dX4_comers_62 3 rfl ?_
    refine j_aload_n C dX4_comers_64 1 rfl ?_
    refine g_X4_18_12 C dX4_comers_65 ?_
    refine j_iload_n C dX4_comers_68 2 rfl ?_
    refine l_15 C dX4_comers_69 hE (fun v1 hE => ?_)
    refine j_iand C dX4_comers_70 ?_
    refine j_goto (tgt := 76) C dX4_comers_71 rfl ?_
    refine j_sub [] rfl ?_
    exact p_X4_comers_76 C Q  (x4 &&& v1) S hE
set_option maxRecDepth 100000 in
theorem p_X4_comers_54 {X : jX} {D : va_G} {ad : Nat → Nat} {cy : Nat → ClassId} (C : jC X (jMain D ad cy) RX4 cX4_comers (some .int) 6 1 20) {z : Int32 × jS} (Q : jRet X (jMain D ad cy) (some (.int z.1), z.2))  (x2 : Int32) (x4 : Int32) (S : jS) (hE : f_X4_comers_54   x2 x4 S = some z) : jJ X (jMain D ad cy) 54 [(0, .ref (ad 12)), (2, .int x2), (4, .int x4)] [] S := by
  unfold f_X4_comers_54 at hE
  refine j_iconst (v := 0) C dX4_comers_54 jc_ic_0 ?_
  exact p_X4_comers_55 C Q  0 x2 x4 S hE
set_option maxRecDepth 100000 in
theorem p_X4_comers_e {X : jX} {D : va_G} {ad : Nat → Nat} {cy : Nat → ClassId} (C : jC X (jMain D ad cy) RX4 cX4_comers (some .int) 6 1 20) {z : Int32 × jS} (Q : jRet X (jMain D ad cy) (some (.int z.1), z.2))  (x1 : Int32) (x2 : Int32) (S : jS) (hE : f_X4_comers_e   x1 x2 S = some z) : jJ X (jMain D ad cy) 0 [(0, .ref (ad 12)), (1, .int x1), (2, .int x2)] [] S := by
  unfold f_X4_comers_e at hE
  refine j_iload_n C dX4_comers_0 1 rfl ?_
  refine k_X4_31_J6_bitCount_0f7a4 C dX4_comers_1 hE (Nat.le_of_ble_eq_true rfl) (Nat.le_of_ble_eq_true rfl) (Nat.le_of_ble_eq_true rfl) (fun v2 S1 hE => ?_)
  refine j_istore_n (i := 3) (lv' := [(3, .int v2), (0, .ref (ad 12)), (1, .int x1), (2, .int x2)]) C dX4_comers_4 rfl (by decide) rfl ?_
  refine j_iconst (v := 1) C dX4_comers_5 jc_ic_1 ?_
  refine j_aload_n C dX4_comers_6 1 rfl ?_
  refine g_X4_41_12 C dX4_comers_7 ?_
  refine j_ishl C dX4_comers_10 ?_
  refine j_iconst (v := 1) C dX4_comers_11 jc_ic_1 ?_
  refine j_isub C dX4_comers_12 ?_
  refine j_iload_n C dX4_comers_13 2 rfl ?_
  refine j_iconst (v := (-1)) C dX4_comers_14 jc_ic_m1 ?_
  refine j_ixor C dX4_comers_15 ?_
  refine j_iand C dX4_comers_16 ?_
  refine j_istore (lv' := [(4, .int (((1 <<< ((S1.1 12 6) &&& 31)) - 1) &&& (x1 ^^^ (-1)))), (3, .int v2), (0, .ref (ad 12)), (1, .int x1), (2, .int x2)]) C dX4_comers_17 (by decide) rfl ?_
  refine j_iload_n C dX4_comers_19 1 rfl ?_
  refine j_if_le (tgt := 54) C dX4_comers_20 rfl hE (fun hE => ?_) (fun hE => ?_)
  · refine j_sub [2, 4, 0] rfl ?_
    exact p_X4_comers_54 C Q  x2 (((1 <<< ((S1.1 12 6) &&& 31)) - 1) &&& (x1 ^^^ (-1))) S1 hE
  · refine j_iload_n C dX4_comers_23 1 rfl ?_
    refine j_aload_n C dX4_comers_24 2 rfl ?_
    refine g_X4_41_12 C dX4_comers_25 ?_
    refine j_icmp_ge (tgt := 54) C dX4_comers_28 rfl hE (fun hE => ?_) (fun hE => ?_)
    · refine j_sub [2, 4, 0] rfl ?_
      exact p_X4_comers_54 C Q  x2 (((1 <<< ((S1.1 12 6) &&& 31)) - 1) &&& (x1 ^^^ (-1))) S1 hE
    · refine j_aload_n C dX4_comers_31 2 rfl ?_
      refine g_X4_15_12 C dX4_comers_32 ?_
      refine j_iload_n C dX4_comers_35 1 rfl ?_
      refine j_iconst (v := 1) C dX4_comers_36 jc_ic_1 ?_
      refine j_isub C dX4_comers_37 ?_
      refine l_14 C dX4_comers_38 hE (fun v3 hE => ?_)
      refine j_iconst (v := 1) C dX4_comers_39 jc_ic_1 ?_
      refine j_iadd C dX4_comers_40 ?_
      refine j_aload_n C dX4_comers_41 2 rfl ?_
      refine g_X4_15_12 C dX4_comers_42 ?_
      refine j_iload_n C dX4_comers_45 1 rfl ?_
      refine l_14 C dX4_comers_46 hE (fun v4 hE => ?_)
      refine j_icmp_ne (tgt := 54) C dX4_comers_47 rfl hE (fun hE => ?_) (fun hE => ?_)
      · refine j_sub [2, 4, 0] rfl ?_
        exact p_X4_comers_54 C Q  x2 (((1 <<< ((S1.1 12 6) &&& 31)) - 1) &&& (x1 ^^^ (-1))) S1 hE
      · refine j_iconst (v := 1) C dX4_comers_50 jc_ic_1 ?_
        refine j_goto (tgt := 55) C dX4_comers_51 rfl ?_
        refine j_sub [2, 4, 0] rfl ?_
        exact p_X4_comers_55 C Q  1 x2 (((1 <<< ((S1.1 12 6) &&& 31)) - 1) &&& (x1 ^^^ (-1))) S1 hE
theorem c_X4_comers {l : Launch} {D : va_G} {ad : Nat → Nat} {cy : Nat → ClassId} (hO : jOk (jMain D ad cy)) (x1 : Int32) (x2 : Int32) (S : jS) {z : Int32 × jS} (hz : f_X4_comers x1 x2 S = some z) : Met l yX4_comers (.code yX4_comers cX4_comers 6 (some .int) :: jT) { frames := 1, cells := 0, slots := 0, locals := 20 } (va_Pc [.ref (ad 12), .int x1, .int x2] (jInv (jMain D ad cy) S)) (jQ (jMain D ad cy) (some (.int z.1), z.2)) 0 0 (yA (jMain D ad cy)) :=
  jMet hO (by decide +kernel) rfl (Nat.le_of_ble_eq_true rfl) (fun X _ C Q => p_X4_comers_e C Q x1 x2 S hz)
theorem k_X4_51_X4_comers {X : jX} {D : va_G} {ad : Nat → Nat} {cy : Nat → ClassId} {cc : ByteArray} {ret : Option FieldType} {nL fr lo pc : Nat} {lv : List (Nat × Value)} {st : List Value} {S : jS} {β : Type} {z : β} (C : jC X (jMain D ad cy) RX4 cc ret nL fr lo) {a0 : Int32} {a1 : Int32} {E : Int32 → jS → Option β} (d : decode cc pc = .ok (.invokevirtual 51, 3)) (hE : jcl (f_X4_comers a0 a1 S) E = some z) (hfr : 2 ≤ fr) (hlo : 45 ≤ lo) (hst : (st.map fun v => v.category).sum ≤ 8) (K : ∀ (v : Int32) (S1 : jS), E v S1 = some z → jJ X (jMain D ad cy) (pc + 3) lv (.int v :: st) S1) : jJ X (jMain D ad cy) pc lv (.int a1 :: .int a0 :: .ref (ad 12) :: st) S := by
  obtain ⟨v, h1, h2⟩ := jcl_some hE
  exact j_callV (k := 12) (ci := 4) (T := TX4) (N := 7) (n := 2) (As := [.int a0, .int a1]) C (c_X4_comers C.2.2.2.2.2.2.1 a0 a1 S h1) tw_635 tw_637 tw_15 tw_78 tw_638 (by decide +kernel) rfl (by decide : 12 < 56) rfl rfl hfr hlo hst rfl d (K _ _ h2)
