set_option maxRecDepth 100000 in
theorem p_X7_passNumber_67 {X : jX} {D : va_G} {ad : Nat → Nat} {cy : Nat → ClassId} (C : jC X (jMain D ad cy) RX7 cX7_passNumber (none) 1 1 21) {z : jS} (Q : jRet X (jMain D ad cy) (none, z)) {g : jS → Option (jS)} (hg : ∀  (S : jS), g  S = some z → jJ X (jMain D ad cy) 5 [(0, .ref (ad 18))] [] S) {k83 : jS → Option (jS)} (hk83 : ∀  (S : jS), k83  S = some z → jJ X (jMain D ad cy) 83 [] [] S) (a0 : Int32) (S : jS) (hE : f_X7_passNumber_67  g k83 a0 S = some z) : jJ X (jMain D ad cy) 67 [(0, .ref (ad 18))] [.int a0, .ref (ad 18)] S := by
  unfold f_X7_passNumber_67 at hE
  refine p_X7_85_18 C dX7_passNumber_67 hE (fun S1 hE => ?_)
  refine j_aload_n C dX7_passNumber_70 0 rfl ?_
  refine j_dup C dX7_passNumber_71 rfl ?_
  refine g_X7_29_18 C dX7_passNumber_72 ?_
  refine j_iconst (v := 1) C dX7_passNumber_75 jc_ic_1 ?_
  refine j_iadd C dX7_passNumber_76 ?_
  refine p_X7_29_18 C dX7_passNumber_77 hE (fun S2 hE => ?_)
  refine j_goto (tgt := 5) C dX7_passNumber_80 rfl ?_
  exact hg  S2 hE
set_option maxRecDepth 100000 in
theorem p_X7_passNumber_5 {X : jX} {D : va_G} {ad : Nat → Nat} {cy : Nat → ClassId} (C : jC X (jMain D ad cy) RX7 cX7_passNumber (none) 1 1 21) {z : jS} (Q : jRet X (jMain D ad cy) (none, z)) {g : jS → Option (jS)} (hg : ∀  (S : jS), g  S = some z → jJ X (jMain D ad cy) 5 [(0, .ref (ad 18))] [] S) {k83 : jS → Option (jS)} (hk83 : ∀  (S : jS), k83  S = some z → jJ X (jMain D ad cy) 83 [] [] S)  (S : jS) (hE : f_X7_passNumber_5  g k83  S = some z) : jJ X (jMain D ad cy) 5 [(0, .ref (ad 18))] [] S := by
  unfold f_X7_passNumber_5 at hE
  refine j_aload_n C dX7_passNumber_5 0 rfl ?_
  refine g_X7_29_18 C dX7_passNumber_6 ?_
  refine j_aload_n C dX7_passNumber_9 0 rfl ?_
  refine g_X7_23_18 C dX7_passNumber_10 ?_
  refine j_icmp_ge (tgt := 83) C dX7_passNumber_13 rfl hE (fun hE => ?_) (fun hE => ?_)
  · refine j_sub [] rfl ?_
    exact hk83  S hE
  · refine j_aload_n C dX7_passNumber_16 0 rfl ?_
    refine j_aload_n C dX7_passNumber_17 0 rfl ?_
    refine g_X7_29_18 C dX7_passNumber_18 ?_
    refine k_X7_78_X7_byteAt C dX7_passNumber_21 hE (Nat.le_of_ble_eq_true rfl) (Nat.le_of_ble_eq_true rfl) (Nat.le_of_ble_eq_true rfl) (fun v2 S1 hE => ?_)
    refine k_X7_94_X7_isFigure C dX7_passNumber_24 hE (Nat.le_of_ble_eq_true rfl) (Nat.le_of_ble_eq_true rfl) (Nat.le_of_ble_eq_true rfl) (fun v4 S3 hE => ?_)
    refine j_if_eq (tgt := 83) C dX7_passNumber_27 rfl hE (fun hE => ?_) (fun hE => ?_)
    · refine j_sub [] rfl ?_
      exact hk83  S3 hE
    · refine j_aload_n C dX7_passNumber_30 0 rfl ?_
      refine j_aload_n C dX7_passNumber_31 0 rfl ?_
      refine g_X7_29_18 C dX7_passNumber_32 ?_
      refine j_aload_n C dX7_passNumber_35 0 rfl ?_
      refine g_X7_70_18 C dX7_passNumber_36 ?_
      refine j_isub C dX7_passNumber_39 ?_
      refine j_iconst (v := 3) C dX7_passNumber_40 jc_ic_3 ?_
      refine j_icmp_ge (tgt := 66) C dX7_passNumber_41 rfl hE (fun hE => ?_) (fun hE => ?_)
      · refine j_iconst (v := (-1)) C dX7_passNumber_66 jc_ic_m1 ?_
        exact p_X7_passNumber_67 C Q hg hk83 (-1) S3 hE
      · refine j_bipush (v := 10) C dX7_passNumber_44 jc_bp_10 ?_
        refine j_aload_n C dX7_passNumber_46 0 rfl ?_
        refine g_X7_85_18 C dX7_passNumber_47 ?_
        refine j_imul C dX7_passNumber_50 ?_
        refine j_aload_n C dX7_passNumber_51 0 rfl ?_
        refine j_aload_n C dX7_passNumber_52 0 rfl ?_
        refine g_X7_29_18 C dX7_passNumber_53 ?_
        refine k_X7_78_X7_byteAt C dX7_passNumber_56 hE (Nat.le_of_ble_eq_true rfl) (Nat.le_of_ble_eq_true rfl) (Nat.le_of_ble_eq_true rfl) (fun v6 S5 hE => ?_)
        refine j_iadd C dX7_passNumber_59 ?_
        refine j_bipush (v := 48) C dX7_passNumber_60 jc_bp_48 ?_
        refine j_isub C dX7_passNumber_62 ?_
        refine j_goto (tgt := 67) C dX7_passNumber_63 rfl ?_
        exact p_X7_passNumber_67 C Q hg hk83 (((10 * (S3.1 18 9)) + v6) - 48) S5 hE
theorem q_X7_passNumber_5 {X : jX} {D : va_G} {ad : Nat → Nat} {cy : Nat → ClassId} (C : jC X (jMain D ad cy) RX7 cX7_passNumber (none) 1 1 21) {z : jS} (Q : jRet X (jMain D ad cy) (none, z)) {k83 : jS → Option (jS)} (hk83 : ∀  (S : jS), k83  S = some z → jJ X (jMain D ad cy) 83 [] [] S)  (S : jS) (hE : lp_X7_passNumber_5  k83  S = some z) : jJ X (jMain D ad cy) 5 [(0, .ref (ad 18))] [] S :=
  jloop_P (α := jS) (B := (fun g q => f_X7_passNumber_5  (fun  S => g (S)) k83  q)) (P := fun q => jJ X (jMain D ad cy) 5 [(0, .ref (ad 18))] [] q) (fun g q hg h => p_X7_passNumber_5 C Q (g := fun  S => g (S)) (fun  S h => hg (S) h) hk83  q h) jN (S) hE
set_option maxRecDepth 100000 in
theorem p_X7_passNumber_83 {X : jX} {D : va_G} {ad : Nat → Nat} {cy : Nat → ClassId} (C : jC X (jMain D ad cy) RX7 cX7_passNumber (none) 1 1 21) {z : jS} (Q : jRet X (jMain D ad cy) (none, z))   (S : jS) (hE : f_X7_passNumber_83    S = some z) : jJ X (jMain D ad cy) 83 [] [] S := by
  unfold f_X7_passNumber_83 at hE
  exact j_vret C Q dX7_passNumber_83 hE
set_option maxRecDepth 100000 in
theorem p_X7_passNumber_e {X : jX} {D : va_G} {ad : Nat → Nat} {cy : Nat → ClassId} (C : jC X (jMain D ad cy) RX7 cX7_passNumber (none) 1 1 21) {z : jS} (Q : jRet X (jMain D ad cy) (none, z))   (S : jS) (hE : f_X7_passNumber_e    S = some z) : jJ X (jMain D ad cy) 0 [(0, .ref (ad 18))] [] S := by
  unfold f_X7_passNumber_e at hE
  refine j_aload_n C dX7_passNumber_0 0 rfl ?_
  refine j_iconst (v := 0) C dX7_passNumber_1 jc_ic_0 ?_
  refine p_X7_85_18 C dX7_passNumber_2 hE (fun S1 hE => ?_)
  exact q_X7_passNumber_5 C Q (p_X7_passNumber_83 C Q )  S1 hE
theorem c_X7_passNumber {l : Launch} {D : va_G} {ad : Nat → Nat} {cy : Nat → ClassId} (hO : jOk (jMain D ad cy))  (S : jS) {z : jS} (hz : f_X7_passNumber  S = some z) : Met l yX7_passNumber (.code yX7_passNumber cX7_passNumber 1 (none) :: jT) { frames := 1, cells := 0, slots := 0, locals := 21 } (va_Pc [.ref (ad 18)] (jInv (jMain D ad cy) S)) (jQ (jMain D ad cy) (none, z)) 0 0 (yA (jMain D ad cy)) :=
  jMet hO (by decide +kernel) rfl (Nat.le_of_ble_eq_true rfl) (fun X _ C Q => p_X7_passNumber_e C Q  S hz)
theorem k_X7_97_X7_passNumber {X : jX} {D : va_G} {ad : Nat → Nat} {cy : Nat → ClassId} {cc : ByteArray} {ret : Option FieldType} {nL fr lo pc : Nat} {lv : List (Nat × Value)} {st : List Value} {S : jS} {β : Type} {z : β} (C : jC X (jMain D ad cy) RX7 cc ret nL fr lo)  {E : jS → Option β} (d : decode cc pc = .ok (.invokevirtual 97, 3)) (hE : jcv (f_X7_passNumber  S) E = some z) (hfr : 2 ≤ fr) (hlo : 41 ≤ lo) (hst : (st.map fun v => v.category).sum ≤ 8) (K : ∀ S1, E S1 = some z → jJ X (jMain D ad cy) (pc + 3) lv st S1) : jJ X (jMain D ad cy) pc lv (.ref (ad 18) :: st) S := by
  obtain ⟨v, h1, h2⟩ := jcv_some hE
  exact j_callV (k := 18) (ci := 7) (T := TX7) (N := 10) (n := 0) (As := []) C (c_X7_passNumber C.2.2.2.2.2.2.1  S h1) tw_437 tw_439 tw_6 tw_79 tw_440 (by decide +kernel) rfl (by decide : 18 < 56) rfl rfl hfr hlo hst rfl d (K _ h2)
set_option maxRecDepth 100000 in
theorem p_X7_passWord_0v1 {X : jX} {D : va_G} {ad : Nat → Nat} {cy : Nat → ClassId} (C : jC X (jMain D ad cy) RX7 cX7_passWord (none) 1 1 21) {z : jS} (Q : jRet X (jMain D ad cy) (none, z)) {g : jS → Option (jS)} (hg : ∀  (S : jS), g  S = some z → jJ X (jMain D ad cy) 0 [(0, .ref (ad 18))] [] S) {k38 : jS → Option (jS)} (hk38 : ∀  (S : jS), k38  S = some z → jJ X (jMain D ad cy) 38 [] [] S)  (S : jS) (hE : f_X7_passWord_0v1  g k38  S = some z) : jJ X (jMain D ad cy) 0 [(0, .ref (ad 18))] [] S := by
  unfold f_X7_passWord_0v1 at hE
  refine j_aload_n C dX7_passWord_0 0 rfl ?_
  refine g_X7_29_18 C dX7_passWord_1 ?_
  refine j_aload_n C dX7_passWord_4 0 rfl ?_
  refine g_X7_23_18 C dX7_passWord_5 ?_
  refine j_icmp_ge (tgt := 38) C dX7_passWord_8 rfl hE (fun hE => ?_) (fun hE => ?_)
  · refine j_sub [] rfl ?_
    exact hk38  S hE
  · refine j_aload_n C dX7_passWord_11 0 rfl ?_
    refine j_aload_n C dX7_passWord_12 0 rfl ?_
    refine g_X7_29_18 C dX7_passWord_13 ?_
    refine k_X7_78_X7_byteAt C dX7_passWord_16 hE (Nat.le_of_ble_eq_true rfl) (Nat.le_of_ble_eq_true rfl) (Nat.le_of_ble_eq_true rfl) (fun v2 S1 hE => ?_)
    refine k_X7_88_X7_isLetter C dX7_passWord_19 hE (Nat.le_of_ble_eq_true rfl) (Nat.le_of_ble_eq_true rfl) (Nat.le_of_ble_eq_true rfl) (fun v4 S3 hE => ?_)
    refine j_if_eq (tgt := 38) C dX7_passWord_22 rfl hE (fun hE => ?_) (fun hE => ?_)
    · refine j_sub [] rfl ?_
      exact hk38  S3 hE
    · refine j_aload_n C dX7_passWord_25 0 rfl ?_
      refine j_dup C dX7_passWord_26 rfl ?_
      refine g_X7_29_18 C dX7_passWord_27 ?_
      refine j_iconst (v := 1) C dX7_passWord_30 jc_ic_1 ?_
      refine j_iadd C dX7_passWord_31 ?_
      refine p_X7_29_18 C dX7_passWord_32 hE (fun S5 hE => ?_)
      refine j_goto (tgt := 0) C dX7_passWord_35 rfl ?_
      exact hg  S5 hE
theorem q_X7_passWord_0v1 {X : jX} {D : va_G} {ad : Nat → Nat} {cy : Nat → ClassId} (C : jC X (jMain D ad cy) RX7 cX7_passWord (none) 1 1 21) {z : jS} (Q : jRet X (jMain D ad cy) (none, z)) {k38 : jS → Option (jS)} (hk38 : ∀  (S : jS), k38  S = some z → jJ X (jMain D ad cy) 38 [] [] S)  (S : jS) (hE : lp_X7_passWord_0v1  k38  S = some z) : jJ X (jMain D ad cy) 0 [(0, .ref (ad 18))] [] S :=
  jloop_P (α := jS) (B := (fun g q => f_X7_passWord_0v1  (fun  S => g (S)) k38  q)) (P := fun q => jJ X (jMain D ad cy) 0 [(0, .ref (ad 18))] [] q) (fun g q hg h => p_X7_passWord_0v1 C Q (g := fun  S => g (S)) (fun  S h => hg (S) h) hk38  q h) jN (S) hE
set_option maxRecDepth 100000 in
theorem p_X7_passWord_38 {X : jX} {D : va_G} {ad : Nat → Nat} {cy : Nat → ClassId} (C : jC X (jMain D ad cy) RX7 cX7_passWord (none) 1 1 21) {z : jS} (Q : jRet X (jMain D ad cy) (none, z))   (S : jS) (hE : f_X7_passWord_38    S = some z) : jJ X (jMain D ad cy) 38 [] [] S := by
  unfold f_X7_passWord_38 at hE
  exact j_vret C Q dX7_passWord_38 hE
set_option maxRecDepth 100000 in
theorem p_X7_passWord_e {X : jX} {D : va_G} {ad : Nat → Nat} {cy : Nat → ClassId} (C : jC X (jMain D ad cy) RX7 cX7_passWord (none) 1 1 21) {z : jS} (Q : jRet X (jMain D ad cy) (none, z))   (S : jS) (hE : f_X7_passWord_e    S = some z) : jJ X (jMain D ad cy) 0 [(0, .ref (ad 18))] [] S := by
  unfold f_X7_passWord_e at hE
  exact q_X7_passWord_0v1 C Q (p_X7_passWord_38 C Q )  S hE
theorem c_X7_passWord {l : Launch} {D : va_G} {ad : Nat → Nat} {cy : Nat → ClassId} (hO : jOk (jMain D ad cy))  (S : jS) {z : jS} (hz : f_X7_passWord  S = some z) : Met l yX7_passWord (.code yX7_passWord cX7_passWord 1 (none) :: jT) { frames := 1, cells := 0, slots := 0, locals := 21 } (va_Pc [.ref (ad 18)] (jInv (jMain D ad cy) S)) (jQ (jMain D ad cy) (none, z)) 0 0 (yA (jMain D ad cy)) :=
  jMet hO (by decide +kernel) rfl (Nat.le_of_ble_eq_true rfl) (fun X _ C Q => p_X7_passWord_e C Q  S hz)
theorem k_X7_91_X7_passWord {X : jX} {D : va_G} {ad : Nat → Nat} {cy : Nat → ClassId} {cc : ByteArray} {ret : Option FieldType} {nL fr lo pc : Nat} {lv : List (Nat × Value)} {st : List Value} {S : jS} {β : Type} {z : β} (C : jC X (jMain D ad cy) RX7 cc ret nL fr lo)  {E : jS → Option β} (d : decode cc pc = .ok (.invokevirtual 91, 3)) (hE : jcv (f_X7_passWord  S) E = some z) (hfr : 2 ≤ fr) (hlo : 41 ≤ lo) (hst : (st.map fun v => v.category).sum ≤ 8) (K : ∀ S1, E S1 = some z → jJ X (jMain D ad cy) (pc + 3) lv st S1) : jJ X (jMain D ad cy) pc lv (.ref (ad 18) :: st) S := by
  obtain ⟨v, h1, h2⟩ := jcv_some hE
  exact j_callV (k := 18) (ci := 7) (T := TX7) (N := 10) (n := 0) (As := []) C (c_X7_passWord C.2.2.2.2.2.2.1  S h1) tw_430 tw_432 tw_5 tw_79 tw_433 (by decide +kernel) rfl (by decide : 18 < 56) rfl rfl hfr hlo hst rfl d (K _ h2)
set_option maxRecDepth 100000 in
theorem p_X7_scan_0v1 {X : jX} {D : va_G} {ad : Nat → Nat} {cy : Nat → ClassId} (C : jC X (jMain D ad cy) RX7 cX7_scan (none) 2 2 41) {z : jS} (Q : jRet X (jMain D ad cy) (none, z)) {g : jS → Option (jS)} (hg : ∀  (S : jS), g  S = some z → jJ X (jMain D ad cy) 0 [(0, .ref (ad 18))] [] S) {k37 : jS → Option (jS)} (hk37 : ∀  (S : jS), k37  S = some z → jJ X (jMain D ad cy) 37 [(0, .ref (ad 18))] [] S)  (S : jS) (hE : f_X7_scan_0v1  g k37  S = some z) : jJ X (jMain D ad cy) 0 [(0, .ref (ad 18))] [] S := by
  unfold f_X7_scan_0v1 at hE
  refine j_aload_n C dX7_scan_0 0 rfl ?_
  refine g_X7_29_18 C dX7_scan_1 ?_
  refine j_aload_n C dX7_scan_4 0 rfl ?_
  refine g_X7_23_18 C dX7_scan_5 ?_
  refine j_icmp_ge (tgt := 37) C dX7_scan_8 rfl hE (fun hE => ?_) (fun hE => ?_)
  · exact hk37  S hE
  · refine j_aload_n C dX7_scan_11 0 rfl ?_
    refine j_aload_n C dX7_scan_12 0 rfl ?_
    refine g_X7_29_18 C dX7_scan_13 ?_
    refine k_X7_78_X7_byteAt C dX7_scan_16 hE (Nat.le_of_ble_eq_true rfl) (Nat.le_of_ble_eq_true rfl) (Nat.le_of_ble_eq_true rfl) (fun v2 S1 hE => ?_)
    refine j_bipush (v := 32) C dX7_scan_19 jc_bp_32 ?_
    refine j_icmp_ne (tgt := 37) C dX7_scan_21 rfl hE (fun hE => ?_) (fun hE => ?_)
    · exact hk37  S1 hE
    · refine j_aload_n C dX7_scan_24 0 rfl ?_
      refine j_dup C dX7_scan_25 rfl ?_
      refine g_X7_29_18 C dX7_scan_26 ?_
      refine j_iconst (v := 1) C dX7_scan_29 jc_ic_1 ?_
      refine j_iadd C dX7_scan_30 ?_
      refine p_X7_29_18 C dX7_scan_31 hE (fun S3 hE => ?_)
      refine j_goto (tgt := 0) C dX7_scan_34 rfl ?_
      exact hg  S3 hE
theorem q_X7_scan_0v1 {X : jX} {D : va_G} {ad : Nat → Nat} {cy : Nat → ClassId} (C : jC X (jMain D ad cy) RX7 cX7_scan (none) 2 2 41) {z : jS} (Q : jRet X (jMain D ad cy) (none, z)) {k37 : jS → Option (jS)} (hk37 : ∀  (S : jS), k37  S = some z → jJ X (jMain D ad cy) 37 [(0, .ref (ad 18))] [] S)  (S : jS) (hE : lp_X7_scan_0v1  k37  S = some z) : jJ X (jMain D ad cy) 0 [(0, .ref (ad 18))] [] S :=
  jloop_P (α := jS) (B := (fun g q => f_X7_scan_0v1  (fun  S => g (S)) k37  q)) (P := fun q => jJ X (jMain D ad cy) 0 [(0, .ref (ad 18))] [] q) (fun g q hg h => p_X7_scan_0v1 C Q (g := fun  S => g (S)) (fun  S h => hg (S) h) hk37  q h) jN (S) hE
set_option maxRecDepth 100000 in
theorem p_X7_scan_129 {X : jX} {D : va_G} {ad : Nat → Nat} {cy : Nat → ClassId} (C : jC X (jMain D ad cy) RX7 cX7_scan (none) 2 2 41) {z : jS} (Q : jRet X (jMain D ad cy) (none, z))   (S : jS) (hE : f_X7_scan_129    S = some z) : jJ X (jMain D ad cy) 129 [] [] S := by
  unfold f_X7_scan_129 at hE
  exact j_vret C Q dX7_scan_129 hE
set_option maxRecDepth 100000 in
theorem p_X7_scan_116 {X : jX} {D : va_G} {ad : Nat → Nat} {cy : Nat → ClassId} (C : jC X (jMain D ad cy) RX7 cX7_scan (none) 2 2 41) {z : jS} (Q : jRet X (jMain D ad cy) (none, z))  (a0 : Int32) (S : jS) (hE : f_X7_scan_116   a0 S = some z) : jJ X (jMain D ad cy) 116 [(0, .ref (ad 18))] [.int a0, .ref (ad 18)] S := by
  unfold f_X7_scan_116 at hE
  refine p_X7_38_18 C dX7_scan_116 hE (fun S1 hE => ?_)
  refine j_aload_n C dX7_scan_119 0 rfl ?_
  refine j_dup C dX7_scan_120 rfl ?_
  refine g_X7_29_18 C dX7_scan_121 ?_
  refine j_iconst (v := 1) C dX7_scan_124 jc_ic_1 ?_
  refine j_iadd C dX7_scan_125 ?_
  refine p_X7_29_18 C dX7_scan_126 hE (fun S2 hE => ?_)
  refine j_sub [] rfl ?_
  exact p_X7_scan_129 C Q   S2 hE
set_option maxRecDepth 100000 in
theorem p_X7_scan_37 {X : jX} {D : va_G} {ad : Nat → Nat} {cy : Nat → ClassId} (C : jC X (jMain D ad cy) RX7 cX7_scan (none) 2 2 41) {z : jS} (Q : jRet X (jMain D ad cy) (none, z))   (S : jS) (hE : f_X7_scan_37    S = some z) : jJ X (jMain D ad cy) 37 [(0, .ref (ad 18))] [] S := by
  unfold f_X7_scan_37 at hE
  refine j_aload_n C dX7_scan_37 0 rfl ?_
  refine j_aload_n C dX7_scan_38 0 rfl ?_
  refine g_X7_29_18 C dX7_scan_39 ?_
  refine p_X7_70_18 C dX7_scan_42 hE (fun S1 hE => ?_)
  refine j_aload_n C dX7_scan_45 0 rfl ?_
  refine j_aload_n C dX7_scan_46 0 rfl ?_
  refine g_X7_29_18 C dX7_scan_47 ?_
  refine k_X7_78_X7_byteAt C dX7_scan_50 hE (Nat.le_of_ble_eq_true rfl) (Nat.le_of_ble_eq_true rfl) (Nat.le_of_ble_eq_true rfl) (fun v3 S2 hE => ?_)
  refine j_istore_n (i := 1) (lv' := [(1, .int v3), (0, .ref (ad 18))]) C dX7_scan_53 rfl (by decide) rfl ?_
  refine j_iload_n C dX7_scan_54 0 rfl ?_
  refine j_if_ge (tgt := 66) C dX7_scan_55 rfl hE (fun hE => ?_) (fun hE => ?_)
  · refine j_iload_n C dX7_scan_66 0 rfl ?_
    refine k_X7_88_X7_isLetter C dX7_scan_67 hE (Nat.le_of_ble_eq_true rfl) (Nat.le_of_ble_eq_true rfl) (Nat.le_of_ble_eq_true rfl) (fun v5 S4 hE => ?_)
    refine j_if_eq (tgt := 85) C dX7_scan_70 rfl hE (fun hE => ?_) (fun hE => ?_)
    · refine j_iload_n C dX7_scan_85 0 rfl ?_
      refine k_X7_94_X7_isFigure C dX7_scan_86 hE (Nat.le_of_ble_eq_true rfl) (Nat.le_of_ble_eq_true rfl) (Nat.le_of_ble_eq_true rfl) (fun v7 S6 hE => ?_)
      refine j_if_eq (tgt := 104) C dX7_scan_89 rfl hE (fun hE => ?_) (fun hE => ?_)
      · refine j_aload_n C dX7_scan_104 1 rfl ?_
        refine j_iload_n C dX7_scan_105 0 rfl ?_
        refine j_bipush (v := 59) C dX7_scan_106 jc_bp_59 ?_
        refine j_icmp_ne (tgt := 115) C dX7_scan_108 rfl hE (fun hE => ?_) (fun hE => ?_)
        · refine j_iconst (v := 4) C dX7_scan_115 jc_ic_4 ?_
          refine j_sub [1] rfl ?_
          exact p_X7_scan_116 C Q  4 S6 hE
        · refine j_iconst (v := 3) C dX7_scan_111 jc_ic_3 ?_
          refine j_goto (tgt := 116) C dX7_scan_112 rfl ?_
          refine j_sub [1] rfl ?_
          exact p_X7_scan_116 C Q  3 S6 hE
      · refine j_aload_n C dX7_scan_92 1 rfl ?_
        refine j_iconst (v := 2) C dX7_scan_93 jc_ic_2 ?_
        refine p_X7_38_18 C dX7_scan_94 hE (fun S8 hE => ?_)
        refine j_aload_n C dX7_scan_97 1 rfl ?_
        refine k_X7_97_X7_passNumber C dX7_scan_98 hE (Nat.le_of_ble_eq_true rfl) (Nat.le_of_ble_eq_true rfl) (Nat.le_of_ble_eq_true rfl) (fun S9 hE => ?_)
        refine j_goto (tgt := 129) C dX7_scan_101 rfl ?_
        refine j_sub [] rfl ?_
        exact p_X7_scan_129 C Q   S9 hE
    · refine j_aload_n C dX7_scan_73 1 rfl ?_
      refine j_iconst (v := 1) C dX7_scan_74 jc_ic_1 ?_
      refine p_X7_38_18 C dX7_scan_75 hE (fun S10 hE => ?_)
      refine j_aload_n C dX7_scan_78 1 rfl ?_
      refine k_X7_91_X7_passWord C dX7_scan_79 hE (Nat.le_of_ble_eq_true rfl) (Nat.le_of_ble_eq_true rfl) (Nat.le_of_ble_eq_true rfl) (fun S11 hE => ?_)
      refine j_goto (tgt := 129) C dX7_scan_82 rfl ?_
      refine j_sub [] rfl ?_
      exact p_X7_scan_129 C Q   S11 hE
  · refine j_aload_n C dX7_scan_58 1 rfl ?_
    refine j_iconst (v := 0) C dX7_scan_59 jc_ic_0 ?_
    refine p_X7_38_18 C dX7_scan_60 hE (fun S12 hE => ?_)
    refine j_goto (tgt := 129) C dX7_scan_63 rfl ?_
    refine j_sub [] rfl ?_
    exact p_X7_scan_129 C Q   S12 hE
set_option maxRecDepth 100000 in
theorem p_X7_scan_e {X : jX} {D : va_G} {ad : Nat → Nat} {cy : Nat → ClassId} (C : jC X (jMain D ad cy) RX7 cX7_scan (none) 2 2 41) {z : jS} (Q : jRet X (jMain D ad cy) (none, z))   (S : jS) (hE : f_X7_scan_e    S = some z) : jJ X (jMain D ad cy) 0 [(0, .ref (ad 18))] [] S := by
  unfold f_X7_scan_e at hE
  exact q_X7_scan_0v1 C Q (p_X7_scan_37 C Q )  S hE
theorem c_X7_scan {l : Launch} {D : va_G} {ad : Nat → Nat} {cy : Nat → ClassId} (hO : jOk (jMain D ad cy))  (S : jS) {z : jS} (hz : f_X7_scan  S = some z) : Met l yX7_scan (.code yX7_scan cX7_scan 2 (none) :: jT) { frames := 2, cells := 0, slots := 0, locals := 41 } (va_Pc [.ref (ad 18)] (jInv (jMain D ad cy) S)) (jQ (jMain D ad cy) (none, z)) 0 0 (yA (jMain D ad cy)) :=
  jMet hO (by decide +kernel) rfl (Nat.le_of_ble_eq_true rfl) (fun X _ C Q => p_X7_scan_e C Q  S hz)
theorem k_X7_32_X7_scan {X : jX} {D : va_G} {ad : Nat → Nat} {cy : Nat → ClassId} {cc : ByteArray} {ret : Option FieldType} {nL fr lo pc : Nat} {lv : List (Nat × Value)} {st : List Value} {S : jS} {β : Type} {z : β} (C : jC X (jMain D ad cy) RX7 cc ret nL fr lo)  {E : jS → Option β} (d : decode cc pc = .ok (.invokevirtual 32, 3)) (hE : jcv (f_X7_scan  S) E = some z) (hfr : 3 ≤ fr) (hlo : 62 ≤ lo) (hst : (st.map fun v => v.category).sum ≤ 8) (K : ∀ S1, E S1 = some z → jJ X (jMain D ad cy) (pc + 3) lv st S1) : jJ X (jMain D ad cy) pc lv (.ref (ad 18) :: st) S := by
  obtain ⟨v, h1, h2⟩ := jcv_some hE
  exact j_callV (k := 18) (ci := 7) (T := TX7) (N := 10) (n := 0) (As := []) C (c_X7_scan C.2.2.2.2.2.2.1  S h1) tw_419 tw_421 tw_3 tw_79 tw_422 (by decide +kernel) rfl (by decide : 18 < 56) rfl rfl hfr hlo hst rfl d (K _ h2)
set_option maxRecDepth 100000 in
theorem p_J0_coder_7d493_r100_14 {X : jX} {D : va_G} {ad : Nat → Nat} {cy : Nat → ClassId} (C : jC X (jMain D ad cy) RJ0 cJ0_coder_7d493 (some .byte) 1 0 0) {z : Int32 × jS} (Q : jRet X (jMain D ad cy) (some (.int z.1), z.2))  (a0 : Int32) (S : jS) (hE : f_J0_coder_7d493_r100_14   a0 S = some z) : jJ X (jMain D ad cy) 14 [] [.int a0] S := by
  unfold f_J0_coder_7d493_r100_14 at hE
  exact j_bret C Q dJ0_coder_7d493_14 hE
set_option maxRecDepth 100000 in
theorem p_J0_coder_7d493_r100_e {X : jX} {D : va_G} {ad : Nat → Nat} {cy : Nat → ClassId} (C : jC X (jMain D ad cy) RJ0 cJ0_coder_7d493 (some .byte) 1 0 0) {z : Int32 × jS} (Q : jRet X (jMain D ad cy) (some (.int z.1), z.2))   (S : jS) (hE : f_J0_coder_7d493_r100_e    S = some z) : jJ X (jMain D ad cy) 0 [(0, .ref (ad 100))] [] S := by
  unfold f_J0_coder_7d493_r100_e at hE
  refine gs_J0_38 C dJ0_coder_7d493_0 ?_
  refine j_if_eq (tgt := 13) C dJ0_coder_7d493_3 rfl hE (fun hE => ?_) (fun hE => ?_)
  · refine j_iconst (v := 1) C dJ0_coder_7d493_13 jc_ic_1 ?_
    refine j_sub [] rfl ?_
    exact p_J0_coder_7d493_r100_14 C Q  1 S hE
  · refine j_aload_n C dJ0_coder_7d493_6 0 rfl ?_
    refine gk_J0_15_100 C dJ0_coder_7d493_7 ?_
    refine j_goto (tgt := 14) C dJ0_coder_7d493_10 rfl ?_
    refine j_sub [] rfl ?_
    exact p_J0_coder_7d493_r100_14 C Q  0 S hE
theorem c_J0_coder_7d493_r100 {l : Launch} {D : va_G} {ad : Nat → Nat} {cy : Nat → ClassId} (hO : jOk (jMain D ad cy))  (S : jS) {z : Int32 × jS} (hz : f_J0_coder_7d493_r100  S = some z) : Met l yJ0_coder_7d493 (.code yJ0_coder_7d493 cJ0_coder_7d493 1 (some .byte) :: jT) { frames := 0, cells := 0, slots := 0, locals := 0 } (va_Pc [.ref (ad 100)] (jInv (jMain D ad cy) S)) (jQ (jMain D ad cy) (some (.int z.1), z.2)) 0 0 (yA (jMain D ad cy)) :=
  jMet hO (by decide +kernel) rfl (Nat.le_of_ble_eq_true rfl) (fun X _ C Q => p_J0_coder_7d493_r100_e C Q  S hz)
theorem k_J0_335_J0_coder_7d493_r100 {X : jX} {D : va_G} {ad : Nat → Nat} {cy : Nat → ClassId} {cc : ByteArray} {ret : Option FieldType} {nL fr lo pc : Nat} {lv : List (Nat × Value)} {st : List Value} {S : jS} {β : Type} {z : β} (C : jC X (jMain D ad cy) RJ0 cc ret nL fr lo)  {E : Int32 → jS → Option β} (d : decode cc pc = .ok (.invokevirtual 335, 3)) (hE : jcl (f_J0_coder_7d493_r100  S) E = some z) (hfr : 1 ≤ fr) (hlo : 20 ≤ lo) (hst : (st.map fun v => v.category).sum ≤ 8) (K : ∀ (v : Int32) (S1 : jS), E v S1 = some z → jJ X (jMain D ad cy) (pc + 3) lv (.int v :: st) S1) : jJ X (jMain D ad cy) pc lv (.ref (ad 100) :: st) S := by
  obtain ⟨v, h1, h2⟩ := jcl_some hE
  exact j_callVK (n := 0) (As := []) C (c_J0_coder_7d493_r100 C.2.2.2.2.2.2.1  S h1) tw_458 tw_459 tw_460 tw_83 tw_461 (by decide +kernel) rfl (fun H locs hS => vk_recv (adK := fun i => ad (100 + i)) (i := 0) C.2.2.2.2.2.2.2.2.2.2.2.2.2.2.2.2.2.2.1 (by decide) hS) hfr hlo hst rfl d (K _ _ h2)
set_option maxRecDepth 100000 in
theorem p_J0_length_8abf5_r100_e {X : jX} {D : va_G} {ad : Nat → Nat} {cy : Nat → ClassId} (C : jC X (jMain D ad cy) RJ0 cJ0_length_8abf5 (some .int) 1 1 20) {z : Int32 × jS} (Q : jRet X (jMain D ad cy) (some (.int z.1), z.2))   (S : jS) (hE : f_J0_length_8abf5_r100_e    S = some z) : jJ X (jMain D ad cy) 0 [(0, .ref (ad 100))] [] S := by
  unfold f_J0_length_8abf5_r100_e at hE
  refine j_aload_n C dJ0_length_8abf5_0 0 rfl ?_
  refine gk_J0_9_100 C dJ0_length_8abf5_1 ?_
  refine nk_102 C dJ0_length_8abf5_4 ?_
  refine j_aload_n C dJ0_length_8abf5_5 0 rfl ?_
  refine k_J0_335_J0_coder_7d493_r100 C dJ0_length_8abf5_6 hE (Nat.le_of_ble_eq_true rfl) (Nat.le_of_ble_eq_true rfl) (Nat.le_of_ble_eq_true rfl) (fun v2 S1 hE => ?_)
  refine j_ishr C dJ0_length_8abf5_9 ?_
  exact j_iret C Q dJ0_length_8abf5_10 hE
theorem c_J0_length_8abf5_r100 {l : Launch} {D : va_G} {ad : Nat → Nat} {cy : Nat → ClassId} (hO : jOk (jMain D ad cy))  (S : jS) {z : Int32 × jS} (hz : f_J0_length_8abf5_r100  S = some z) : Met l yJ0_length_8abf5 (.code yJ0_length_8abf5 cJ0_length_8abf5 1 (some .int) :: jT) { frames := 1, cells := 0, slots := 0, locals := 20 } (va_Pc [.ref (ad 100)] (jInv (jMain D ad cy) S)) (jQ (jMain D ad cy) (some (.int z.1), z.2)) 0 0 (yA (jMain D ad cy)) :=
  jMet hO (by decide +kernel) rfl (Nat.le_of_ble_eq_true rfl) (fun X _ C Q => p_J0_length_8abf5_r100_e C Q  S hz)
theorem k_X7_73_J0_length_8abf5_r100 {X : jX} {D : va_G} {ad : Nat → Nat} {cy : Nat → ClassId} {cc : ByteArray} {ret : Option FieldType} {nL fr lo pc : Nat} {lv : List (Nat × Value)} {st : List Value} {S : jS} {β : Type} {z : β} (C : jC X (jMain D ad cy) RX7 cc ret nL fr lo)  {E : Int32 → jS → Option β} (d : decode cc pc = .ok (.invokevirtual 73, 3)) (hE : jcl (f_J0_length_8abf5_r100  S) E = some z) (hfr : 2 ≤ fr) (hlo : 40 ≤ lo) (hst : (st.map fun v => v.category).sum ≤ 8) (K : ∀ (v : Int32) (S1 : jS), E v S1 = some z → jJ X (jMain D ad cy) (pc + 3) lv (.int v :: st) S1) : jJ X (jMain D ad cy) pc lv (.ref (ad 100) :: st) S := by
  obtain ⟨v, h1, h2⟩ := jcl_some hE
  exact j_callVK (n := 0) (As := []) C (c_J0_length_8abf5_r100 C.2.2.2.2.2.2.1  S h1) tw_454 tw_455 tw_456 tw_83 tw_457 (by decide +kernel) rfl (fun H locs hS => vk_recv (adK := fun i => ad (100 + i)) (i := 0) C.2.2.2.2.2.2.2.2.2.2.2.2.2.2.2.2.2.2.1 (by decide) hS) hfr hlo hst rfl d (K _ _ h2)
set_option maxRecDepth 100000 in
theorem p_J0_isLatin1_aae02_r100_18 {X : jX} {D : va_G} {ad : Nat → Nat} {cy : Nat → ClassId} (C : jC X (jMain D ad cy) RJ0 cJ0_isLatin1_aae02 (some .boolean) 1 0 0) {z : Int32 × jS} (Q : jRet X (jMain D ad cy) (some (.int z.1), z.2))  (a0 : Int32) (S : jS) (hE : f_J0_isLatin1_aae02_r100_18   a0 S = some z) : jJ X (jMain D ad cy) 18 [] [.int a0] S := by
  unfold f_J0_isLatin1_aae02_r100_18 at hE
  exact j_zret C Q dJ0_isLatin1_aae02_18 hE
set_option maxRecDepth 100000 in
theorem p_J0_isLatin1_aae02_r100_17 {X : jX} {D : va_G} {ad : Nat → Nat} {cy : Nat → ClassId} (C : jC X (jMain D ad cy) RJ0 cJ0_isLatin1_aae02 (some .boolean) 1 0 0) {z : Int32 × jS} (Q : jRet X (jMain D ad cy) (some (.int z.1), z.2))   (S : jS) (hE : f_J0_isLatin1_aae02_r100_17    S = some z) : jJ X (jMain D ad cy) 17 [] [] S := by
  unfold f_J0_isLatin1_aae02_r100_17 at hE
  refine j_iconst (v := 0) C dJ0_isLatin1_aae02_17 jc_ic_0 ?_
  exact p_J0_isLatin1_aae02_r100_18 C Q  0 S hE
set_option maxRecDepth 100000 in
theorem p_J0_isLatin1_aae02_r100_e {X : jX} {D : va_G} {ad : Nat → Nat} {cy : Nat → ClassId} (C : jC X (jMain D ad cy) RJ0 cJ0_isLatin1_aae02 (some .boolean) 1 0 0) {z : Int32 × jS} (Q : jRet X (jMain D ad cy) (some (.int z.1), z.2))   (S : jS) (hE : f_J0_isLatin1_aae02_r100_e    S = some z) : jJ X (jMain D ad cy) 0 [(0, .ref (ad 100))] [] S := by
  unfold f_J0_isLatin1_aae02_r100_e at hE
  refine gs_J0_38 C dJ0_isLatin1_aae02_0 ?_
  refine j_if_eq (tgt := 17) C dJ0_isLatin1_aae02_3 rfl hE (fun hE => ?_) (fun hE => ?_)
  · refine j_sub [] rfl ?_
    exact p_J0_isLatin1_aae02_r100_17 C Q   S hE
  · refine j_aload_n C dJ0_isLatin1_aae02_6 0 rfl ?_
    refine gk_J0_15_100 C dJ0_isLatin1_aae02_7 ?_
    refine j_if_ne (tgt := 17) C dJ0_isLatin1_aae02_10 rfl hE (fun hE => ?_) (fun hE => ?_)
    · refine j_sub [] rfl ?_
      exact p_J0_isLatin1_aae02_r100_17 C Q   S hE
    · refine j_iconst (v := 1) C dJ0_isLatin1_aae02_13 jc_ic_1 ?_
      refine j_goto (tgt := 18) C dJ0_isLatin1_aae02_14 rfl ?_
      refine j_sub [] rfl ?_
      exact p_J0_isLatin1_aae02_r100_18 C Q  1 S hE
theorem c_J0_isLatin1_aae02_r100 {l : Launch} {D : va_G} {ad : Nat → Nat} {cy : Nat → ClassId} (hO : jOk (jMain D ad cy))  (S : jS) {z : Int32 × jS} (hz : f_J0_isLatin1_aae02_r100  S = some z) : Met l yJ0_isLatin1_aae02 (.code yJ0_isLatin1_aae02 cJ0_isLatin1_aae02 1 (some .boolean) :: jT) { frames := 0, cells := 0, slots := 0, locals := 0 } (va_Pc [.ref (ad 100)] (jInv (jMain D ad cy) S)) (jQ (jMain D ad cy) (some (.int z.1), z.2)) 0 0 (yA (jMain D ad cy)) :=
  jMet hO (by decide +kernel) rfl (Nat.le_of_ble_eq_true rfl) (fun X _ C Q => p_J0_isLatin1_aae02_r100_e C Q  S hz)
theorem k_J0_492_J0_isLatin1_aae02_r100 {X : jX} {D : va_G} {ad : Nat → Nat} {cy : Nat → ClassId} {cc : ByteArray} {ret : Option FieldType} {nL fr lo pc : Nat} {lv : List (Nat × Value)} {st : List Value} {S : jS} {β : Type} {z : β} (C : jC X (jMain D ad cy) RJ0 cc ret nL fr lo)  {E : Int32 → jS → Option β} (d : decode cc pc = .ok (.invokevirtual 492, 3)) (hE : jcl (f_J0_isLatin1_aae02_r100  S) E = some z) (hfr : 1 ≤ fr) (hlo : 20 ≤ lo) (hst : (st.map fun v => v.category).sum ≤ 8) (K : ∀ (v : Int32) (S1 : jS), E v S1 = some z → jJ X (jMain D ad cy) (pc + 3) lv (.int v :: st) S1) : jJ X (jMain D ad cy) pc lv (.ref (ad 100) :: st) S := by
  obtain ⟨v, h1, h2⟩ := jcl_some hE
  exact j_callVK (n := 0) (As := []) C (c_J0_isLatin1_aae02_r100 C.2.2.2.2.2.2.1  S h1) tw_468 tw_469 tw_470 tw_83 tw_471 (by decide +kernel) rfl (fun H locs hS => vk_recv (adK := fun i => ad (100 + i)) (i := 0) C.2.2.2.2.2.2.2.2.2.2.2.2.2.2.2.2.2.2.1 (by decide) hS) hfr hlo hst rfl d (K _ _ h2)
theorem c_J3_ci {l : Launch} {D : va_G} {ad : Nat → Nat} {cy : Nat → ClassId} (hO : jOk (jMain D ad cy)) (x0 x1 : Int32) (w : Value) (hw : w = .null ∨ ∃ t, w = .ref t) (S : jS) (h0 : ¬ x0 < 0) (h1 : x0 < x1) : Met l yJ3_checkIndex_8e157 (.code yJ3_checkIndex_8e157 cJ3_checkIndex_8e157 3 (some .int) :: jT) { frames := 0, cells := 0, slots := 0, locals := 0 } (va_Pc [.int x0, .int x1, w] (jInv (jMain D ad cy) S)) (jQ (jMain D ad cy) (some (.int x0), S)) 0 0 (yA (jMain D ad cy)) := by
  refine jMet hO (by decide +kernel) rfl (by rcases hw with rfl | ⟨t, rfl⟩ <;> exact Nat.le_of_ble_eq_true rfl) (fun X _ C Q => ?_)
  show jJ X (jMain D ad cy) 0 [(0, .int x0), (1, .int x1), (2, w)] [] S
  refine j_iload_n C dJ3_checkIndex_8e157_0 0 rfl ?_
  refine j_if_lt (tgt := 9) (E1 := none) (E2 := some (x0, S)) (z := (x0, S)) C dJ3_checkIndex_8e157_1 rfl (by rw [if_neg h0]) (fun h => by cases h) (fun hE => ?_)
  refine j_iload_n C dJ3_checkIndex_8e157_4 0 rfl ?_
  refine j_iload_n C dJ3_checkIndex_8e157_5 1 rfl ?_
  refine j_icmp_lt (tgt := 16) (E1 := some (x0, S)) (E2 := none) (z := (x0, S)) C dJ3_checkIndex_8e157_6 rfl (by rw [if_pos h1]) (fun hE => ?_) (fun h => by cases h)
  refine j_iload_n C dJ3_checkIndex_8e157_16 0 rfl ?_
  exact j_iret (z := (x0, S)) C Q dJ3_checkIndex_8e157_17 rfl
theorem c_J0_checkIndex_df160 {l : Launch} {D : va_G} {ad : Nat → Nat} {cy : Nat → ClassId} (hO : jOk (jMain D ad cy)) (x0 : Int32) (x1 : Int32) (S : jS) {z : jS} (hz : f_J0_checkIndex_df160 x0 x1 S = some z) : Met l yJ0_checkIndex_df160 (.code yJ0_checkIndex_df160 cJ0_checkIndex_df160 2 (none) :: jT) { frames := 1, cells := 0, slots := 0, locals := 22 } (va_Pc [.int x0, .int x1] (jInv (jMain D ad cy) S)) (jQ (jMain D ad cy) (none, z)) 0 0 (yA (jMain D ad cy)) := by
  unfold f_J0_checkIndex_df160 at hz
  obtain ⟨h0, hz⟩ := jin_some hz
  obtain ⟨h1, hz⟩ := jif_some hz
  cases hz
  refine jMet hO (by decide +kernel) rfl (Nat.le_of_ble_eq_true rfl) (fun X _ C Q => ?_)
  show jJ X (jMain D ad cy) 0 [(0, .int x0), (1, .int x1)] [] S
  have key : ∀ w : Value, (w = .null ∨ ∃ t, w = .ref t) → va_Z "jdk/internal/util/Preconditions" "SIOOBE_FORMATTER" "Ljava/util/function/BiFunction;" w (yA (jMain D ad cy)) (xs X) (xs X).heap → jJ X (jMain D ad cy) 0 [(0, .int x0), (1, .int x1)] [] S := by
    intro w hw hZ
    refine j_iload_n C dJ0_checkIndex_df160_0 0 rfl ?_
    refine j_iload_n C dJ0_checkIndex_df160_1 1 rfl ?_
    refine j_gets C hZ tw_478 dJ0_checkIndex_df160_2 ?_
    refine j_callS (n := 3) (As := [.int x0, .int x1, w]) C (c_J3_ci C.2.2.2.2.2.2.1 x0 x1 w hw S h0 h1) tw_480 tw_481 tw_85 tw_482 (by decide +kernel) rfl (Nat.le_of_ble_eq_true rfl) (Nat.le_of_ble_eq_true rfl) (Nat.le_of_ble_eq_true rfl) rfl dJ0_checkIndex_df160_5 ?_
    show jJ X (jMain D ad cy) (5 + 3) [(0, .int x0), (1, .int x1)] [.int x0] S
    refine j_pop C dJ0_checkIndex_df160_8 rfl ?_
    exact j_vret (z := S) C Q dJ0_checkIndex_df160_9 rfl
  rcases C.2.2.2.2.2.2.2.2.2.2.2.2.2.2.2.2.2.2.2.2 with h | ⟨t, h⟩
  · exact key _ (Or.inl rfl) h
  · exact key _ (Or.inr ⟨t, rfl⟩) h
theorem k_J1_9_J0_checkIndex_df160 {X : jX} {D : va_G} {ad : Nat → Nat} {cy : Nat → ClassId} {cc : ByteArray} {ret : Option FieldType} {nL fr lo pc : Nat} {lv : List (Nat × Value)} {st : List Value} {S : jS} {β : Type} {z : β} (C : jC X (jMain D ad cy) RJ1 cc ret nL fr lo) {a0 : Int32} {a1 : Int32} {E : jS → Option β} (d : decode cc pc = .ok (.invokestatic 9, 3)) (hE : jcv (f_J0_checkIndex_df160 a0 a1 S) E = some z) (hfr : 2 ≤ fr) (hlo : 43 ≤ lo) (hst : (st.map fun v => v.category).sum ≤ 8) (K : ∀ S1, E S1 = some z → jJ X (jMain D ad cy) (pc + 3) lv st S1) : jJ X (jMain D ad cy) pc lv (.int a1 :: .int a0 :: st) S := by
  obtain ⟨v, h1, h2⟩ := jcv_some hE
  exact j_callS (n := 2) (As := [.int a0, .int a1]) C (c_J0_checkIndex_df160 C.2.2.2.2.2.2.1 a0 a1 S h1) tw_475 tw_476 tw_83 tw_477 (by decide +kernel) rfl hfr hlo hst rfl d (K _ h2)
set_option maxRecDepth 100000 in
theorem p_J1_charAt_3b067_r102_e {X : jX} {D : va_G} {ad : Nat → Nat} {cy : Nat → ClassId} (C : jC X (jMain D ad cy) RJ1 cJ1_charAt_3b067 (some .char) 2 2 43) {z : Int32 × jS} (Q : jRet X (jMain D ad cy) (some (.int z.1), z.2))  (x1 : Int32) (S : jS) (hE : f_J1_charAt_3b067_r102_e   x1 S = some z) : jJ X (jMain D ad cy) 0 [(0, .ref (ad 102)), (1, .int x1)] [] S := by
  unfold f_J1_charAt_3b067_r102_e at hE
  refine j_iload_n C dJ1_charAt_3b067_0 1 rfl ?_
  refine j_aload_n C dJ1_charAt_3b067_1 0 rfl ?_
  refine nk_102 C dJ1_charAt_3b067_2 ?_
  refine k_J1_9_J0_checkIndex_df160 C dJ1_charAt_3b067_3 hE (Nat.le_of_ble_eq_true rfl) (Nat.le_of_ble_eq_true rfl) (Nat.le_of_ble_eq_true rfl) (fun S1 hE => ?_)
  refine j_aload_n C dJ1_charAt_3b067_6 0 rfl ?_
  refine j_iload_n C dJ1_charAt_3b067_7 1 rfl ?_
  refine bk_102 C dJ1_charAt_3b067_8 hE (fun v2 hE => ?_)
  refine j_sipush (v := 255) C dJ1_charAt_3b067_9 jc_sp_255 ?_
  refine j_iand C dJ1_charAt_3b067_12 ?_
  refine j_i2c C dJ1_charAt_3b067_13 ?_
  exact j_cret C Q dJ1_charAt_3b067_14 hE
theorem c_J1_charAt_3b067_r102 {l : Launch} {D : va_G} {ad : Nat → Nat} {cy : Nat → ClassId} (hO : jOk (jMain D ad cy)) (x1 : Int32) (S : jS) {z : Int32 × jS} (hz : f_J1_charAt_3b067_r102 x1 S = some z) : Met l yJ1_charAt_3b067 (.code yJ1_charAt_3b067 cJ1_charAt_3b067 2 (some .char) :: jT) { frames := 2, cells := 0, slots := 0, locals := 43 } (va_Pc [.ref (ad 102), .int x1] (jInv (jMain D ad cy) S)) (jQ (jMain D ad cy) (some (.int z.1), z.2)) 0 0 (yA (jMain D ad cy)) :=
  jMet hO (by decide +kernel) rfl (Nat.le_of_ble_eq_true rfl) (fun X _ C Q => p_J1_charAt_3b067_r102_e C Q x1 S hz)
theorem k_J0_495_J1_charAt_3b067_r102 {X : jX} {D : va_G} {ad : Nat → Nat} {cy : Nat → ClassId} {cc : ByteArray} {ret : Option FieldType} {nL fr lo pc : Nat} {lv : List (Nat × Value)} {st : List Value} {S : jS} {β : Type} {z : β} (C : jC X (jMain D ad cy) RJ0 cc ret nL fr lo) {a1 : Int32} {E : Int32 → jS → Option β} (d : decode cc pc = .ok (.invokestatic 495, 3)) (hE : jcl (f_J1_charAt_3b067_r102 a1 S) E = some z) (hfr : 3 ≤ fr) (hlo : 64 ≤ lo) (hst : (st.map fun v => v.category).sum ≤ 8) (K : ∀ (v : Int32) (S1 : jS), E v S1 = some z → jJ X (jMain D ad cy) (pc + 3) lv (.int v :: st) S1) : jJ X (jMain D ad cy) pc lv (.int a1 :: .ref (ad 102) :: st) S := by
  obtain ⟨v, h1, h2⟩ := jcl_some hE
  exact j_callS (n := 2) (As := [.ref (ad 102), .int a1]) C (c_J1_charAt_3b067_r102 C.2.2.2.2.2.2.1 a1 S h1) tw_472 tw_473 tw_84 tw_474 (by decide +kernel) rfl hfr hlo hst rfl d (K _ _ h2)
set_option maxRecDepth 100000 in
theorem p_J0_charAt_5068e_r100_e {X : jX} {D : va_G} {ad : Nat → Nat} {cy : Nat → ClassId} (C : jC X (jMain D ad cy) RJ0 cJ0_charAt_5068e (some .char) 2 3 64) {z : Int32 × jS} (Q : jRet X (jMain D ad cy) (some (.int z.1), z.2))  (x1 : Int32) (S : jS) (hE : f_J0_charAt_5068e_r100_e   x1 S = some z) : jJ X (jMain D ad cy) 0 [(0, .ref (ad 100)), (1, .int x1)] [] S := by
  unfold f_J0_charAt_5068e_r100_e at hE
  refine j_aload_n C dJ0_charAt_5068e_0 0 rfl ?_
  refine k_J0_492_J0_isLatin1_aae02_r100 C dJ0_charAt_5068e_1 hE (Nat.le_of_ble_eq_true rfl) (Nat.le_of_ble_eq_true rfl) (Nat.le_of_ble_eq_true rfl) (fun v2 S1 hE => ?_)
  refine j_if_eq (tgt := 16) C dJ0_charAt_5068e_4 rfl hE (fun hE => ?_) (fun hE => ?_)
  · refine j_aload_n C dJ0_charAt_5068e_16 0 rfl ?_
    refine gk_J0_9_100 C dJ0_charAt_5068e_17 ?_
    refine j_iload_n C dJ0_charAt_5068e_20 1 rfl ?_
    cases hE
  · refine j_aload_n C dJ0_charAt_5068e_7 0 rfl ?_
    refine gk_J0_9_100 C dJ0_charAt_5068e_8 ?_
    refine j_iload_n C dJ0_charAt_5068e_11 1 rfl ?_
    refine k_J0_495_J1_charAt_3b067_r102 C dJ0_charAt_5068e_12 hE (Nat.le_of_ble_eq_true rfl) (Nat.le_of_ble_eq_true rfl) (Nat.le_of_ble_eq_true rfl) (fun v4 S3 hE => ?_)
    exact j_cret C Q dJ0_charAt_5068e_15 hE
theorem c_J0_charAt_5068e_r100 {l : Launch} {D : va_G} {ad : Nat → Nat} {cy : Nat → ClassId} (hO : jOk (jMain D ad cy)) (x1 : Int32) (S : jS) {z : Int32 × jS} (hz : f_J0_charAt_5068e_r100 x1 S = some z) : Met l yJ0_charAt_5068e (.code yJ0_charAt_5068e cJ0_charAt_5068e 2 (some .char) :: jT) { frames := 3, cells := 0, slots := 0, locals := 64 } (va_Pc [.ref (ad 100), .int x1] (jInv (jMain D ad cy) S)) (jQ (jMain D ad cy) (some (.int z.1), z.2)) 0 0 (yA (jMain D ad cy)) :=
  jMet hO (by decide +kernel) rfl (Nat.le_of_ble_eq_true rfl) (fun X _ C Q => p_J0_charAt_5068e_r100_e C Q x1 S hz)
theorem k_X7_81_J0_charAt_5068e_r100 {X : jX} {D : va_G} {ad : Nat → Nat} {cy : Nat → ClassId} {cc : ByteArray} {ret : Option FieldType} {nL fr lo pc : Nat} {lv : List (Nat × Value)} {st : List Value} {S : jS} {β : Type} {z : β} (C : jC X (jMain D ad cy) RX7 cc ret nL fr lo) {a0 : Int32} {E : Int32 → jS → Option β} (d : decode cc pc = .ok (.invokevirtual 81, 3)) (hE : jcl (f_J0_charAt_5068e_r100 a0 S) E = some z) (hfr : 4 ≤ fr) (hlo : 85 ≤ lo) (hst : (st.map fun v => v.category).sum ≤ 8) (K : ∀ (v : Int32) (S1 : jS), E v S1 = some z → jJ X (jMain D ad cy) (pc + 3) lv (.int v :: st) S1) : jJ X (jMain D ad cy) pc lv (.int a0 :: .ref (ad 100) :: st) S := by
  obtain ⟨v, h1, h2⟩ := jcl_some hE
  exact j_callVK (n := 1) (As := [.int a0]) C (c_J0_charAt_5068e_r100 C.2.2.2.2.2.2.1 a0 S h1) tw_464 tw_465 tw_466 tw_83 tw_467 (by decide +kernel) rfl (fun H locs hS => vk_recv (adK := fun i => ad (100 + i)) (i := 0) C.2.2.2.2.2.2.2.2.2.2.2.2.2.2.2.2.2.2.1 (by decide) hS) hfr hlo hst rfl d (K _ _ h2)
set_option maxRecDepth 100000 in
theorem p_X7_tokenIs_r100_20 {X : jX} {D : va_G} {ad : Nat → Nat} {cy : Nat → ClassId} (C : jC X (jMain D ad cy) RX7 cX7_tokenIs (some .boolean) 3 4 85) {z : Int32 × jS} (Q : jRet X (jMain D ad cy) (some (.int z.1), z.2)) {g : Int32 → jS → Option (Int32 × jS)} (hg : ∀ (x2 : Int32) (S : jS), g x2 S = some z → jJ X (jMain D ad cy) 20 [(0, .ref (ad 18)), (1, .ref (ad 100)), (2, .int x2)] [] S) {k46 : jS → Option (Int32 × jS)} (hk46 : ∀  (S : jS), k46  S = some z → jJ X (jMain D ad cy) 46 [] [] S) {k54 : jS → Option (Int32 × jS)} (hk54 : ∀  (S : jS), k54  S = some z → jJ X (jMain D ad cy) 54 [] [] S) (x2 : Int32) (S : jS) (hE : f_X7_tokenIs_r100_20  g k46 k54 x2 S = some z) : jJ X (jMain D ad cy) 20 [(0, .ref (ad 18)), (1, .ref (ad 100)), (2, .int x2)] [] S := by
  unfold f_X7_tokenIs_r100_20 at hE
  refine j_iload_n C dX7_tokenIs_20 2 rfl ?_
  refine j_aload_n C dX7_tokenIs_21 1 rfl ?_
  refine k_X7_73_J0_length_8abf5_r100 C dX7_tokenIs_22 hE (Nat.le_of_ble_eq_true rfl) (Nat.le_of_ble_eq_true rfl) (Nat.le_of_ble_eq_true rfl) (fun v2 S1 hE => ?_)
  refine j_icmp_ge (tgt := 54) C dX7_tokenIs_25 rfl hE (fun hE => ?_) (fun hE => ?_)
  · refine j_sub [] rfl ?_
    exact hk54  S1 hE
  · refine j_aload_n C dX7_tokenIs_28 0 rfl ?_
    refine j_aload_n C dX7_tokenIs_29 0 rfl ?_
    refine g_X7_70_18 C dX7_tokenIs_30 ?_
    refine j_iload_n C dX7_tokenIs_33 2 rfl ?_
    refine j_iadd C dX7_tokenIs_34 ?_
    refine k_X7_78_X7_byteAt C dX7_tokenIs_35 hE (Nat.le_of_ble_eq_true rfl) (Nat.le_of_ble_eq_true rfl) (Nat.le_of_ble_eq_true rfl) (fun v4 S3 hE => ?_)
    refine j_aload_n C dX7_tokenIs_38 1 rfl ?_
    refine j_iload_n C dX7_tokenIs_39 2 rfl ?_
    refine k_X7_81_J0_charAt_5068e_r100 C dX7_tokenIs_40 hE (Nat.le_of_ble_eq_true rfl) (Nat.le_of_ble_eq_true rfl) (Nat.le_of_ble_eq_true rfl) (fun v6 S5 hE => ?_)
    refine j_icmp_eq (tgt := 48) C dX7_tokenIs_43 rfl hE (fun hE => ?_) (fun hE => ?_)
    · refine j_iinc (v := (x2 + 1)) (lv' := [(2, .int (x2 + 1)), (0, .ref (ad 18)), (1, .ref (ad 100))]) C dX7_tokenIs_48 2 rfl (congrArg (fun w => x2 + w) jc_ic_1) (by decide) rfl ?_
      refine j_goto (tgt := 20) C dX7_tokenIs_51 rfl ?_
      refine j_sub [1, 2, 0] rfl ?_
      exact hg (x2 + 1) S5 hE
    · refine j_sub [] rfl ?_
      exact hk46  S5 hE
theorem q_X7_tokenIs_r100_20 {X : jX} {D : va_G} {ad : Nat → Nat} {cy : Nat → ClassId} (C : jC X (jMain D ad cy) RX7 cX7_tokenIs (some .boolean) 3 4 85) {z : Int32 × jS} (Q : jRet X (jMain D ad cy) (some (.int z.1), z.2)) {k46 : jS → Option (Int32 × jS)} (hk46 : ∀  (S : jS), k46  S = some z → jJ X (jMain D ad cy) 46 [] [] S) {k54 : jS → Option (Int32 × jS)} (hk54 : ∀  (S : jS), k54  S = some z → jJ X (jMain D ad cy) 54 [] [] S) (x2 : Int32) (S : jS) (hE : lp_X7_tokenIs_r100_20  k46 k54 x2 S = some z) : jJ X (jMain D ad cy) 20 [(0, .ref (ad 18)), (1, .ref (ad 100)), (2, .int x2)] [] S :=
  jloop_P (α := Int32 × jS) (B := (fun g q => f_X7_tokenIs_r100_20  (fun x2 S => g (x2, S)) k46 k54 q.1 q.2)) (P := fun q => jJ X (jMain D ad cy) 20 [(0, .ref (ad 18)), (1, .ref (ad 100)), (2, .int q.1)] [] q.2) (fun g q hg h => p_X7_tokenIs_r100_20 C Q (g := fun x2 S => g (x2, S)) (fun x2 S h => hg (x2, S) h) hk46 hk54 q.1 q.2 h) jN (x2, S) hE
set_option maxRecDepth 100000 in
theorem p_X7_tokenIs_r100_46 {X : jX} {D : va_G} {ad : Nat → Nat} {cy : Nat → ClassId} (C : jC X (jMain D ad cy) RX7 cX7_tokenIs (some .boolean) 3 4 85) {z : Int32 × jS} (Q : jRet X (jMain D ad cy) (some (.int z.1), z.2))   (S : jS) (hE : f_X7_tokenIs_r100_46    S = some z) : jJ X (jMain D ad cy) 46 [] [] S := by
  unfold f_X7_tokenIs_r100_46 at hE
  refine j_iconst (v := 0) C dX7_tokenIs_46 jc_ic_0 ?_
  exact j_zret C Q dX7_tokenIs_47 hE
set_option maxRecDepth 100000 in
theorem p_X7_tokenIs_r100_54 {X : jX} {D : va_G} {ad : Nat → Nat} {cy : Nat → ClassId} (C : jC X (jMain D ad cy) RX7 cX7_tokenIs (some .boolean) 3 4 85) {z : Int32 × jS} (Q : jRet X (jMain D ad cy) (some (.int z.1), z.2))   (S : jS) (hE : f_X7_tokenIs_r100_54    S = some z) : jJ X (jMain D ad cy) 54 [] [] S := by
  unfold f_X7_tokenIs_r100_54 at hE
  refine j_iconst (v := 1) C dX7_tokenIs_54 jc_ic_1 ?_
  exact j_zret C Q dX7_tokenIs_55 hE
set_option maxRecDepth 100000 in
theorem p_X7_tokenIs_r100_e {X : jX} {D : va_G} {ad : Nat → Nat} {cy : Nat → ClassId} (C : jC X (jMain D ad cy) RX7 cX7_tokenIs (some .boolean) 3 4 85) {z : Int32 × jS} (Q : jRet X (jMain D ad cy) (some (.int z.1), z.2))   (S : jS) (hE : f_X7_tokenIs_r100_e    S = some z) : jJ X (jMain D ad cy) 0 [(0, .ref (ad 18)), (1, .ref (ad 100))] [] S := by
  unfold f_X7_tokenIs_r100_e at hE
  refine j_aload_n C dX7_tokenIs_0 0 rfl ?_
  refine g_X7_29_18 C dX7_tokenIs_1 ?_
  refine j_aload_n C dX7_tokenIs_4 0 rfl ?_
  refine g_X7_70_18 C dX7_tokenIs_5 ?_
  refine j_isub C dX7_tokenIs_8 ?_
  refine j_aload_n C dX7_tokenIs_9 1 rfl ?_
  refine k_X7_73_J0_length_8abf5_r100 C dX7_tokenIs_10 hE (Nat.le_of_ble_eq_true rfl) (Nat.le_of_ble_eq_true rfl) (Nat.le_of_ble_eq_true rfl) (fun v2 S1 hE => ?_)
  refine j_icmp_eq (tgt := 18) C dX7_tokenIs_13 rfl hE (fun hE => ?_) (fun hE => ?_)
  · refine j_iconst (v := 0) C dX7_tokenIs_18 jc_ic_0 ?_
    refine j_istore_n (i := 2) (lv' := [(2, .int 0), (0, .ref (ad 18)), (1, .ref (ad 100))]) C dX7_tokenIs_19 rfl (by decide) rfl ?_
    refine j_sub [1, 2, 0] rfl ?_
    exact q_X7_tokenIs_r100_20 C Q (p_X7_tokenIs_r100_46 C Q ) (p_X7_tokenIs_r100_54 C Q ) 0 S1 hE
  · refine j_iconst (v := 0) C dX7_tokenIs_16 jc_ic_0 ?_
    exact j_zret C Q dX7_tokenIs_17 hE
theorem c_X7_tokenIs_r100 {l : Launch} {D : va_G} {ad : Nat → Nat} {cy : Nat → ClassId} (hO : jOk (jMain D ad cy))  (S : jS) {z : Int32 × jS} (hz : f_X7_tokenIs_r100  S = some z) : Met l yX7_tokenIs (.code yX7_tokenIs cX7_tokenIs 3 (some .boolean) :: jT) { frames := 4, cells := 0, slots := 0, locals := 85 } (va_Pc [.ref (ad 18), .ref (ad 100)] (jInv (jMain D ad cy) S)) (jQ (jMain D ad cy) (some (.int z.1), z.2)) 0 0 (yA (jMain D ad cy)) :=
  jMet hO (by decide +kernel) rfl (Nat.le_of_ble_eq_true rfl) (fun X _ C Q => p_X7_tokenIs_r100_e C Q  S hz)
theorem k_X7_66_X7_tokenIs_r100 {X : jX} {D : va_G} {ad : Nat → Nat} {cy : Nat → ClassId} {cc : ByteArray} {ret : Option FieldType} {nL fr lo pc : Nat} {lv : List (Nat × Value)} {st : List Value} {S : jS} {β : Type} {z : β} (C : jC X (jMain D ad cy) RX7 cc ret nL fr lo)  {E : Int32 → jS → Option β} (d : decode cc pc = .ok (.invokevirtual 66, 3)) (hE : jcl (f_X7_tokenIs_r100  S) E = some z) (hfr : 5 ≤ fr) (hlo : 107 ≤ lo) (hst : (st.map fun v => v.category).sum ≤ 8) (K : ∀ (v : Int32) (S1 : jS), E v S1 = some z → jJ X (jMain D ad cy) (pc + 3) lv (.int v :: st) S1) : jJ X (jMain D ad cy) pc lv (.ref (ad 100) :: .ref (ad 18) :: st) S := by
  obtain ⟨v, h1, h2⟩ := jcl_some hE
  exact j_callV (k := 18) (ci := 7) (T := TX7) (N := 10) (n := 1) (As := [.ref (ad 100)]) C (c_X7_tokenIs_r100 C.2.2.2.2.2.2.1  S h1) tw_450 tw_452 tw_9 tw_79 tw_453 (by decide +kernel) rfl (by decide : 18 < 56) rfl rfl hfr hlo hst rfl d (K _ _ h2)
set_option maxRecDepth 100000 in
theorem p_X7_expectWord_r100_24 {X : jX} {D : va_G} {ad : Nat → Nat} {cy : Nat → ClassId} (C : jC X (jMain D ad cy) RX7 cX7_expectWord (none) 2 5 107) {z : jS} (Q : jRet X (jMain D ad cy) (none, z))   (S : jS) (hE : f_X7_expectWord_r100_24    S = some z) : jJ X (jMain D ad cy) 24 [] [] S := by
  unfold f_X7_expectWord_r100_24 at hE
  exact j_vret C Q dX7_expectWord_24 hE
set_option maxRecDepth 100000 in
theorem p_X7_expectWord_r100_16 {X : jX} {D : va_G} {ad : Nat → Nat} {cy : Nat → ClassId} (C : jC X (jMain D ad cy) RX7 cX7_expectWord (none) 2 5 107) {z : jS} (Q : jRet X (jMain D ad cy) (none, z))   (S : jS) (hE : f_X7_expectWord_r100_16    S = some z) : jJ X (jMain D ad cy) 16 [(0, .ref (ad 18))] [] S := by
  unfold f_X7_expectWord_r100_16 at hE
  refine j_aload_n C dX7_expectWord_16 0 rfl ?_
  refine j_aload_n C dX7_expectWord_17 0 rfl ?_
  refine g_X7_70_18 C dX7_expectWord_18 ?_
  refine p_X7_15_18 C dX7_expectWord_21 hE (fun S1 hE => ?_)
  refine j_sub [] rfl ?_
  exact p_X7_expectWord_r100_24 C Q   S1 hE
set_option maxRecDepth 100000 in
theorem p_X7_expectWord_r100_e {X : jX} {D : va_G} {ad : Nat → Nat} {cy : Nat → ClassId} (C : jC X (jMain D ad cy) RX7 cX7_expectWord (none) 2 5 107) {z : jS} (Q : jRet X (jMain D ad cy) (none, z))   (S : jS) (hE : f_X7_expectWord_r100_e    S = some z) : jJ X (jMain D ad cy) 0 [(0, .ref (ad 18)), (1, .ref (ad 100))] [] S := by
  unfold f_X7_expectWord_r100_e at hE
  refine j_aload_n C dX7_expectWord_0 0 rfl ?_
  refine g_X7_38_18 C dX7_expectWord_1 ?_
  refine j_iconst (v := 1) C dX7_expectWord_4 jc_ic_1 ?_
  refine j_icmp_ne (tgt := 16) C dX7_expectWord_5 rfl hE (fun hE => ?_) (fun hE => ?_)
  · refine j_sub [0] rfl ?_
    exact p_X7_expectWord_r100_16 C Q   S hE
  · refine j_aload_n C dX7_expectWord_8 0 rfl ?_
    refine j_aload_n C dX7_expectWord_9 1 rfl ?_
    refine k_X7_66_X7_tokenIs_r100 C dX7_expectWord_10 hE (Nat.le_of_ble_eq_true rfl) (Nat.le_of_ble_eq_true rfl) (Nat.le_of_ble_eq_true rfl) (fun v2 S1 hE => ?_)
    refine j_if_ne (tgt := 24) C dX7_expectWord_13 rfl hE (fun hE => ?_) (fun hE => ?_)
    · refine j_sub [] rfl ?_
      exact p_X7_expectWord_r100_24 C Q   S1 hE
    · refine j_sub [0] rfl ?_
      exact p_X7_expectWord_r100_16 C Q   S1 hE
theorem c_X7_expectWord_r100 {l : Launch} {D : va_G} {ad : Nat → Nat} {cy : Nat → ClassId} (hO : jOk (jMain D ad cy))  (S : jS) {z : jS} (hz : f_X7_expectWord_r100  S = some z) : Met l yX7_expectWord (.code yX7_expectWord cX7_expectWord 2 (none) :: jT) { frames := 5, cells := 0, slots := 0, locals := 107 } (va_Pc [.ref (ad 18), .ref (ad 100)] (jInv (jMain D ad cy) S)) (jQ (jMain D ad cy) (none, z)) 0 0 (yA (jMain D ad cy)) :=
  jMet hO (by decide +kernel) rfl (Nat.le_of_ble_eq_true rfl) (fun X _ C Q => p_X7_expectWord_r100_e C Q  S hz)
theorem k_X7_46_X7_expectWord_r100 {X : jX} {D : va_G} {ad : Nat → Nat} {cy : Nat → ClassId} {cc : ByteArray} {ret : Option FieldType} {nL fr lo pc : Nat} {lv : List (Nat × Value)} {st : List Value} {S : jS} {β : Type} {z : β} (C : jC X (jMain D ad cy) RX7 cc ret nL fr lo)  {E : jS → Option β} (d : decode cc pc = .ok (.invokevirtual 46, 3)) (hE : jcv (f_X7_expectWord_r100  S) E = some z) (hfr : 6 ≤ fr) (hlo : 128 ≤ lo) (hst : (st.map fun v => v.category).sum ≤ 8) (K : ∀ S1, E S1 = some z → jJ X (jMain D ad cy) (pc + 3) lv st S1) : jJ X (jMain D ad cy) pc lv (.ref (ad 100) :: .ref (ad 18) :: st) S := by
  obtain ⟨v, h1, h2⟩ := jcv_some hE
  exact j_callV (k := 18) (ci := 7) (T := TX7) (N := 10) (n := 1) (As := [.ref (ad 100)]) C (c_X7_expectWord_r100 C.2.2.2.2.2.2.1  S h1) tw_446 tw_448 tw_8 tw_79 tw_449 (by decide +kernel) rfl (by decide : 18 < 56) rfl rfl hfr hlo hst rfl d (K _ h2)
set_option maxRecDepth 100000 in
theorem p_X7_expectNumber_37 {X : jX} {D : va_G} {ad : Nat → Nat} {cy : Nat → ClassId} (C : jC X (jMain D ad cy) RX7 cX7_expectNumber (some .int) 2 3 62) {z : Int32 × jS} (Q : jRet X (jMain D ad cy) (some (.int z.1), z.2))   (S : jS) (hE : f_X7_expectNumber_37    S = some z) : jJ X (jMain D ad cy) 37 [(0, .ref (ad 18))] [] S := by
  unfold f_X7_expectNumber_37 at hE
  refine j_aload_n C dX7_expectNumber_37 0 rfl ?_
  refine j_aload_n C dX7_expectNumber_38 0 rfl ?_
  refine g_X7_70_18 C dX7_expectNumber_39 ?_
  refine p_X7_15_18 C dX7_expectNumber_42 hE (fun S1 hE => ?_)
  refine j_iconst (v := 0) C dX7_expectNumber_45 jc_ic_0 ?_
  exact j_iret C Q dX7_expectNumber_46 hE
set_option maxRecDepth 100000 in
theorem p_X7_expectNumber_e {X : jX} {D : va_G} {ad : Nat → Nat} {cy : Nat → ClassId} (C : jC X (jMain D ad cy) RX7 cX7_expectNumber (some .int) 2 3 62) {z : Int32 × jS} (Q : jRet X (jMain D ad cy) (some (.int z.1), z.2))  (x1 : Int32) (S : jS) (hE : f_X7_expectNumber_e   x1 S = some z) : jJ X (jMain D ad cy) 0 [(0, .ref (ad 18)), (1, .int x1)] [] S := by
  unfold f_X7_expectNumber_e at hE
  refine j_aload_n C dX7_expectNumber_0 0 rfl ?_
  refine g_X7_15_18 C dX7_expectNumber_1 ?_
  refine j_iconst (v := (-1)) C dX7_expectNumber_4 jc_ic_m1 ?_
  refine j_icmp_eq (tgt := 10) C dX7_expectNumber_5 rfl hE (fun hE => ?_) (fun hE => ?_)
  · refine j_aload_n C dX7_expectNumber_10 0 rfl ?_
    refine k_X7_32_X7_scan C dX7_expectNumber_11 hE (Nat.le_of_ble_eq_true rfl) (Nat.le_of_ble_eq_true rfl) (Nat.le_of_ble_eq_true rfl) (fun S1 hE => ?_)
    refine j_aload_n C dX7_expectNumber_14 0 rfl ?_
    refine g_X7_38_18 C dX7_expectNumber_15 ?_
    refine j_iconst (v := 2) C dX7_expectNumber_18 jc_ic_2 ?_
    refine j_icmp_ne (tgt := 37) C dX7_expectNumber_19 rfl hE (fun hE => ?_) (fun hE => ?_)
    · refine j_sub [0] rfl ?_
      exact p_X7_expectNumber_37 C Q   S1 hE
    · refine j_aload_n C dX7_expectNumber_22 0 rfl ?_
      refine g_X7_85_18 C dX7_expectNumber_23 ?_
      refine j_if_lt (tgt := 37) C dX7_expectNumber_26 rfl hE (fun hE => ?_) (fun hE => ?_)
      · refine j_sub [0] rfl ?_
        exact p_X7_expectNumber_37 C Q   S1 hE
      · refine j_aload_n C dX7_expectNumber_29 0 rfl ?_
        refine g_X7_85_18 C dX7_expectNumber_30 ?_
        refine j_iload_n C dX7_expectNumber_33 1 rfl ?_
        refine j_icmp_le (tgt := 47) C dX7_expectNumber_34 rfl hE (fun hE => ?_) (fun hE => ?_)
        · refine j_aload_n C dX7_expectNumber_47 0 rfl ?_
          refine g_X7_85_18 C dX7_expectNumber_48 ?_
          exact j_iret C Q dX7_expectNumber_51 hE
        · refine j_sub [0] rfl ?_
          exact p_X7_expectNumber_37 C Q   S1 hE
  · refine j_iconst (v := 0) C dX7_expectNumber_8 jc_ic_0 ?_
    exact j_iret C Q dX7_expectNumber_9 hE
theorem c_X7_expectNumber {l : Launch} {D : va_G} {ad : Nat → Nat} {cy : Nat → ClassId} (hO : jOk (jMain D ad cy)) (x1 : Int32) (S : jS) {z : Int32 × jS} (hz : f_X7_expectNumber x1 S = some z) : Met l yX7_expectNumber (.code yX7_expectNumber cX7_expectNumber 2 (some .int) :: jT) { frames := 3, cells := 0, slots := 0, locals := 62 } (va_Pc [.ref (ad 18), .int x1] (jInv (jMain D ad cy) S)) (jQ (jMain D ad cy) (some (.int z.1), z.2)) 0 0 (yA (jMain D ad cy)) :=
  jMet hO (by decide +kernel) rfl (Nat.le_of_ble_eq_true rfl) (fun X _ C Q => p_X7_expectNumber_e C Q x1 S hz)
theorem k_X7_50_X7_expectNumber {X : jX} {D : va_G} {ad : Nat → Nat} {cy : Nat → ClassId} {cc : ByteArray} {ret : Option FieldType} {nL fr lo pc : Nat} {lv : List (Nat × Value)} {st : List Value} {S : jS} {β : Type} {z : β} (C : jC X (jMain D ad cy) RX7 cc ret nL fr lo) {a0 : Int32} {E : Int32 → jS → Option β} (d : decode cc pc = .ok (.invokevirtual 50, 3)) (hE : jcl (f_X7_expectNumber a0 S) E = some z) (hfr : 4 ≤ fr) (hlo : 83 ≤ lo) (hst : (st.map fun v => v.category).sum ≤ 8) (K : ∀ (v : Int32) (S1 : jS), E v S1 = some z → jJ X (jMain D ad cy) (pc + 3) lv (.int v :: st) S1) : jJ X (jMain D ad cy) pc lv (.int a0 :: .ref (ad 18) :: st) S := by
  obtain ⟨v, h1, h2⟩ := jcl_some hE
  exact j_callV (k := 18) (ci := 7) (T := TX7) (N := 10) (n := 1) (As := [.int a0]) C (c_X7_expectNumber C.2.2.2.2.2.2.1 a0 S h1) tw_502 tw_504 tw_10 tw_79 tw_505 (by decide +kernel) rfl (by decide : 18 < 56) rfl rfl hfr hlo hst rfl d (K _ _ h2)
set_option maxRecDepth 100000 in
theorem p_X7_expectStop_29 {X : jX} {D : va_G} {ad : Nat → Nat} {cy : Nat → ClassId} (C : jC X (jMain D ad cy) RX7 cX7_expectStop (none) 1 3 62) {z : jS} (Q : jRet X (jMain D ad cy) (none, z))   (S : jS) (hE : f_X7_expectStop_29    S = some z) : jJ X (jMain D ad cy) 29 [] [] S := by
  unfold f_X7_expectStop_29 at hE
  exact j_vret C Q dX7_expectStop_29 hE
set_option maxRecDepth 100000 in
theorem p_X7_expectStop_e {X : jX} {D : va_G} {ad : Nat → Nat} {cy : Nat → ClassId} (C : jC X (jMain D ad cy) RX7 cX7_expectStop (none) 1 3 62) {z : jS} (Q : jRet X (jMain D ad cy) (none, z))   (S : jS) (hE : f_X7_expectStop_e    S = some z) : jJ X (jMain D ad cy) 0 [(0, .ref (ad 18))] [] S := by
  unfold f_X7_expectStop_e at hE
  refine j_aload_n C dX7_expectStop_0 0 rfl ?_
  refine g_X7_15_18 C dX7_expectStop_1 ?_
  refine j_iconst (v := (-1)) C dX7_expectStop_4 jc_ic_m1 ?_
  refine j_icmp_eq (tgt := 9) C dX7_expectStop_5 rfl hE (fun hE => ?_) (fun hE => ?_)
  · refine j_aload_n C dX7_expectStop_9 0 rfl ?_
    refine k_X7_32_X7_scan C dX7_expectStop_10 hE (Nat.le_of_ble_eq_true rfl) (Nat.le_of_ble_eq_true rfl) (Nat.le_of_ble_eq_true rfl) (fun S1 hE => ?_)
    refine j_aload_n C dX7_expectStop_13 0 rfl ?_
    refine g_X7_38_18 C dX7_expectStop_14 ?_
    refine j_iconst (v := 3) C dX7_expectStop_17 jc_ic_3 ?_
    refine j_icmp_eq (tgt := 29) C dX7_expectStop_18 rfl hE (fun hE => ?_) (fun hE => ?_)
    · refine j_sub [] rfl ?_
      exact p_X7_expectStop_29 C Q   S1 hE
    · refine j_aload_n C dX7_expectStop_21 0 rfl ?_
      refine j_aload_n C dX7_expectStop_22 0 rfl ?_
      refine g_X7_70_18 C dX7_expectStop_23 ?_
      refine p_X7_15_18 C dX7_expectStop_26 hE (fun S2 hE => ?_)
      refine j_sub [] rfl ?_
      exact p_X7_expectStop_29 C Q   S2 hE
  · exact j_vret C Q dX7_expectStop_8 hE
theorem c_X7_expectStop {l : Launch} {D : va_G} {ad : Nat → Nat} {cy : Nat → ClassId} (hO : jOk (jMain D ad cy))  (S : jS) {z : jS} (hz : f_X7_expectStop  S = some z) : Met l yX7_expectStop (.code yX7_expectStop cX7_expectStop 1 (none) :: jT) { frames := 3, cells := 0, slots := 0, locals := 62 } (va_Pc [.ref (ad 18)] (jInv (jMain D ad cy) S)) (jQ (jMain D ad cy) (none, z)) 0 0 (yA (jMain D ad cy)) :=
  jMet hO (by decide +kernel) rfl (Nat.le_of_ble_eq_true rfl) (fun X _ C Q => p_X7_expectStop_e C Q  S hz)
theorem k_X7_54_X7_expectStop {X : jX} {D : va_G} {ad : Nat → Nat} {cy : Nat → ClassId} {cc : ByteArray} {ret : Option FieldType} {nL fr lo pc : Nat} {lv : List (Nat × Value)} {st : List Value} {S : jS} {β : Type} {z : β} (C : jC X (jMain D ad cy) RX7 cc ret nL fr lo)  {E : jS → Option β} (d : decode cc pc = .ok (.invokevirtual 54, 3)) (hE : jcv (f_X7_expectStop  S) E = some z) (hfr : 4 ≤ fr) (hlo : 82 ≤ lo) (hst : (st.map fun v => v.category).sum ≤ 8) (K : ∀ S1, E S1 = some z → jJ X (jMain D ad cy) (pc + 3) lv st S1) : jJ X (jMain D ad cy) pc lv (.ref (ad 18) :: st) S := by
  obtain ⟨v, h1, h2⟩ := jcv_some hE
  exact j_callV (k := 18) (ci := 7) (T := TX7) (N := 10) (n := 0) (As := []) C (c_X7_expectStop C.2.2.2.2.2.2.1  S h1) tw_506 tw_508 tw_11 tw_79 tw_509 (by decide +kernel) rfl (by decide : 18 < 56) rfl rfl hfr hlo hst rfl d (K _ h2)
set_option maxRecDepth 100000 in
theorem p_X7_parseStreet_e {X : jX} {D : va_G} {ad : Nat → Nat} {cy : Nat → ClassId} (C : jC X (jMain D ad cy) RX7 cX7_parseStreet (none) 3 6 128) {z : jS} (Q : jRet X (jMain D ad cy) (none, z))   (S : jS) (hE : f_X7_parseStreet_e    S = some z) : jJ X (jMain D ad cy) 0 [(0, .ref (ad 18))] [] S := by
  unfold f_X7_parseStreet_e at hE
  refine j_aload_n C dX7_parseStreet_0 0 rfl ?_
  refine j_ldcS C C.2.2.2.2.2.2.2.2.2.2.2.2.2.2.2.2.1 dX7_parseStreet_1 ?_
  refine k_X7_46_X7_expectWord_r100 C dX7_parseStreet_3 hE (Nat.le_of_ble_eq_true rfl) (Nat.le_of_ble_eq_true rfl) (Nat.le_of_ble_eq_true rfl) (fun S1 hE => ?_)
  refine j_aload_n C dX7_parseStreet_6 0 rfl ?_
  refine j_iconst (v := 5) C dX7_parseStreet_7 jc_ic_5 ?_
  refine k_X7_50_X7_expectNumber C dX7_parseStreet_8 hE (Nat.le_of_ble_eq_true rfl) (Nat.le_of_ble_eq_true rfl) (Nat.le_of_ble_eq_true rfl) (fun v3 S2 hE => ?_)
  refine j_istore_n (i := 1) (lv' := [(1, .int v3), (0, .ref (ad 18))]) C dX7_parseStreet_11 rfl (by decide) rfl ?_
  refine j_aload_n C dX7_parseStreet_12 1 rfl ?_
  refine j_bipush (v := 9) C dX7_parseStreet_13 jc_bp_9 ?_
  refine k_X7_50_X7_expectNumber C dX7_parseStreet_15 hE (Nat.le_of_ble_eq_true rfl) (Nat.le_of_ble_eq_true rfl) (Nat.le_of_ble_eq_true rfl) (fun v5 S4 hE => ?_)
  refine j_istore_n (i := 2) (lv' := [(2, .int v5), (1, .int v3), (0, .ref (ad 18))]) C dX7_parseStreet_18 rfl (by decide) rfl ?_
  refine j_aload_n C dX7_parseStreet_19 2 rfl ?_
  refine k_X7_54_X7_expectStop C dX7_parseStreet_20 hE (Nat.le_of_ble_eq_true rfl) (Nat.le_of_ble_eq_true rfl) (Nat.le_of_ble_eq_true rfl) (fun S6 hE => ?_)
  refine j_aload_n C dX7_parseStreet_23 2 rfl ?_
  refine j_bipush (v := 10) C dX7_parseStreet_24 jc_bp_10 ?_
  refine j_iload_n C dX7_parseStreet_26 1 rfl ?_
  refine j_imul C dX7_parseStreet_27 ?_
  refine j_iload_n C dX7_parseStreet_28 0 rfl ?_
  refine j_iadd C dX7_parseStreet_29 ?_
  refine p_X7_57_18 C dX7_parseStreet_30 hE (fun S7 hE => ?_)
  refine j_aload_n C dX7_parseStreet_33 2 rfl ?_
  refine j_dup C dX7_parseStreet_34 rfl ?_
  refine g_X7_26_18 C dX7_parseStreet_35 ?_
  refine j_iconst (v := 1) C dX7_parseStreet_38 jc_ic_1 ?_
  refine j_iadd C dX7_parseStreet_39 ?_
  refine p_X7_26_18 C dX7_parseStreet_40 hE (fun S8 hE => ?_)
  exact j_vret C Q dX7_parseStreet_43 hE
theorem c_X7_parseStreet {l : Launch} {D : va_G} {ad : Nat → Nat} {cy : Nat → ClassId} (hO : jOk (jMain D ad cy))  (S : jS) {z : jS} (hz : f_X7_parseStreet  S = some z) : Met l yX7_parseStreet (.code yX7_parseStreet cX7_parseStreet 3 (none) :: jT) { frames := 6, cells := 0, slots := 0, locals := 128 } (va_Pc [.ref (ad 18)] (jInv (jMain D ad cy) S)) (jQ (jMain D ad cy) (none, z)) 0 0 (yA (jMain D ad cy)) :=
  jMet hO (by decide +kernel) rfl (Nat.le_of_ble_eq_true rfl) (fun X _ C Q => p_X7_parseStreet_e C Q  S hz)
theorem k_X7_35_X7_parseStreet {X : jX} {D : va_G} {ad : Nat → Nat} {cy : Nat → ClassId} {cc : ByteArray} {ret : Option FieldType} {nL fr lo pc : Nat} {lv : List (Nat × Value)} {st : List Value} {S : jS} {β : Type} {z : β} (C : jC X (jMain D ad cy) RX7 cc ret nL fr lo)  {E : jS → Option β} (d : decode cc pc = .ok (.invokevirtual 35, 3)) (hE : jcv (f_X7_parseStreet  S) E = some z) (hfr : 7 ≤ fr) (hlo : 150 ≤ lo) (hst : (st.map fun v => v.category).sum ≤ 8) (K : ∀ S1, E S1 = some z → jJ X (jMain D ad cy) (pc + 3) lv st S1) : jJ X (jMain D ad cy) pc lv (.ref (ad 18) :: st) S := by
  obtain ⟨v, h1, h2⟩ := jcv_some hE
  exact j_callV (k := 18) (ci := 7) (T := TX7) (N := 10) (n := 0) (As := []) C (c_X7_parseStreet C.2.2.2.2.2.2.1  S h1) tw_441 tw_443 tw_7 tw_79 tw_444 (by decide +kernel) rfl (by decide : 18 < 56) rfl rfl hfr hlo hst rfl d (K _ h2)
set_option maxRecDepth 100000 in
theorem p_J0_coder_7d493_r101_14 {X : jX} {D : va_G} {ad : Nat → Nat} {cy : Nat → ClassId} (C : jC X (jMain D ad cy) RJ0 cJ0_coder_7d493 (some .byte) 1 0 0) {z : Int32 × jS} (Q : jRet X (jMain D ad cy) (some (.int z.1), z.2))  (a0 : Int32) (S : jS) (hE : f_J0_coder_7d493_r101_14   a0 S = some z) : jJ X (jMain D ad cy) 14 [] [.int a0] S := by
  unfold f_J0_coder_7d493_r101_14 at hE
  exact j_bret C Q dJ0_coder_7d493_14 hE
set_option maxRecDepth 100000 in
theorem p_J0_coder_7d493_r101_e {X : jX} {D : va_G} {ad : Nat → Nat} {cy : Nat → ClassId} (C : jC X (jMain D ad cy) RJ0 cJ0_coder_7d493 (some .byte) 1 0 0) {z : Int32 × jS} (Q : jRet X (jMain D ad cy) (some (.int z.1), z.2))   (S : jS) (hE : f_J0_coder_7d493_r101_e    S = some z) : jJ X (jMain D ad cy) 0 [(0, .ref (ad 101))] [] S := by
  unfold f_J0_coder_7d493_r101_e at hE
  refine gs_J0_38 C dJ0_coder_7d493_0 ?_
  refine j_if_eq (tgt := 13) C dJ0_coder_7d493_3 rfl hE (fun hE => ?_) (fun hE => ?_)
  · refine j_iconst (v := 1) C dJ0_coder_7d493_13 jc_ic_1 ?_
    refine j_sub [] rfl ?_
    exact p_J0_coder_7d493_r101_14 C Q  1 S hE
  · refine j_aload_n C dJ0_coder_7d493_6 0 rfl ?_
    refine gk_J0_15_101 C dJ0_coder_7d493_7 ?_
    refine j_goto (tgt := 14) C dJ0_coder_7d493_10 rfl ?_
    refine j_sub [] rfl ?_
    exact p_J0_coder_7d493_r101_14 C Q  0 S hE
theorem c_J0_coder_7d493_r101 {l : Launch} {D : va_G} {ad : Nat → Nat} {cy : Nat → ClassId} (hO : jOk (jMain D ad cy))  (S : jS) {z : Int32 × jS} (hz : f_J0_coder_7d493_r101  S = some z) : Met l yJ0_coder_7d493 (.code yJ0_coder_7d493 cJ0_coder_7d493 1 (some .byte) :: jT) { frames := 0, cells := 0, slots := 0, locals := 0 } (va_Pc [.ref (ad 101)] (jInv (jMain D ad cy) S)) (jQ (jMain D ad cy) (some (.int z.1), z.2)) 0 0 (yA (jMain D ad cy)) :=
  jMet hO (by decide +kernel) rfl (Nat.le_of_ble_eq_true rfl) (fun X _ C Q => p_J0_coder_7d493_r101_e C Q  S hz)
theorem k_J0_335_J0_coder_7d493_r101 {X : jX} {D : va_G} {ad : Nat → Nat} {cy : Nat → ClassId} {cc : ByteArray} {ret : Option FieldType} {nL fr lo pc : Nat} {lv : List (Nat × Value)} {st : List Value} {S : jS} {β : Type} {z : β} (C : jC X (jMain D ad cy) RJ0 cc ret nL fr lo)  {E : Int32 → jS → Option β} (d : decode cc pc = .ok (.invokevirtual 335, 3)) (hE : jcl (f_J0_coder_7d493_r101  S) E = some z) (hfr : 1 ≤ fr) (hlo : 20 ≤ lo) (hst : (st.map fun v => v.category).sum ≤ 8) (K : ∀ (v : Int32) (S1 : jS), E v S1 = some z → jJ X (jMain D ad cy) (pc + 3) lv (.int v :: st) S1) : jJ X (jMain D ad cy) pc lv (.ref (ad 101) :: st) S := by
  obtain ⟨v, h1, h2⟩ := jcl_some hE
  exact j_callVK (n := 0) (As := []) C (c_J0_coder_7d493_r101 C.2.2.2.2.2.2.1  S h1) tw_458 tw_459 tw_460 tw_83 tw_461 (by decide +kernel) rfl (fun H locs hS => vk_recv (adK := fun i => ad (100 + i)) (i := 1) C.2.2.2.2.2.2.2.2.2.2.2.2.2.2.2.2.2.2.1 (by decide) hS) hfr hlo hst rfl d (K _ _ h2)
set_option maxRecDepth 100000 in
theorem p_J0_length_8abf5_r101_e {X : jX} {D : va_G} {ad : Nat → Nat} {cy : Nat → ClassId} (C : jC X (jMain D ad cy) RJ0 cJ0_length_8abf5 (some .int) 1 1 20) {z : Int32 × jS} (Q : jRet X (jMain D ad cy) (some (.int z.1), z.2))   (S : jS) (hE : f_J0_length_8abf5_r101_e    S = some z) : jJ X (jMain D ad cy) 0 [(0, .ref (ad 101))] [] S := by
  unfold f_J0_length_8abf5_r101_e at hE
  refine j_aload_n C dJ0_length_8abf5_0 0 rfl ?_
  refine gk_J0_9_101 C dJ0_length_8abf5_1 ?_
  refine nk_103 C dJ0_length_8abf5_4 ?_
  refine j_aload_n C dJ0_length_8abf5_5 0 rfl ?_
  refine k_J0_335_J0_coder_7d493_r101 C dJ0_length_8abf5_6 hE (Nat.le_of_ble_eq_true rfl) (Nat.le_of_ble_eq_true rfl) (Nat.le_of_ble_eq_true rfl) (fun v2 S1 hE => ?_)
  refine j_ishr C dJ0_length_8abf5_9 ?_
  exact j_iret C Q dJ0_length_8abf5_10 hE
theorem c_J0_length_8abf5_r101 {l : Launch} {D : va_G} {ad : Nat → Nat} {cy : Nat → ClassId} (hO : jOk (jMain D ad cy))  (S : jS) {z : Int32 × jS} (hz : f_J0_length_8abf5_r101  S = some z) : Met l yJ0_length_8abf5 (.code yJ0_length_8abf5 cJ0_length_8abf5 1 (some .int) :: jT) { frames := 1, cells := 0, slots := 0, locals := 20 } (va_Pc [.ref (ad 101)] (jInv (jMain D ad cy) S)) (jQ (jMain D ad cy) (some (.int z.1), z.2)) 0 0 (yA (jMain D ad cy)) :=
  jMet hO (by decide +kernel) rfl (Nat.le_of_ble_eq_true rfl) (fun X _ C Q => p_J0_length_8abf5_r101_e C Q  S hz)
theorem k_X7_73_J0_length_8abf5_r101 {X : jX} {D : va_G} {ad : Nat → Nat} {cy : Nat → ClassId} {cc : ByteArray} {ret : Option FieldType} {nL fr lo pc : Nat} {lv : List (Nat × Value)} {st : List Value} {S : jS} {β : Type} {z : β} (C : jC X (jMain D ad cy) RX7 cc ret nL fr lo)  {E : Int32 → jS → Option β} (d : decode cc pc = .ok (.invokevirtual 73, 3)) (hE : jcl (f_J0_length_8abf5_r101  S) E = some z) (hfr : 2 ≤ fr) (hlo : 40 ≤ lo) (hst : (st.map fun v => v.category).sum ≤ 8) (K : ∀ (v : Int32) (S1 : jS), E v S1 = some z → jJ X (jMain D ad cy) (pc + 3) lv (.int v :: st) S1) : jJ X (jMain D ad cy) pc lv (.ref (ad 101) :: st) S := by
  obtain ⟨v, h1, h2⟩ := jcl_some hE
  exact j_callVK (n := 0) (As := []) C (c_J0_length_8abf5_r101 C.2.2.2.2.2.2.1  S h1) tw_454 tw_455 tw_456 tw_83 tw_457 (by decide +kernel) rfl (fun H locs hS => vk_recv (adK := fun i => ad (100 + i)) (i := 1) C.2.2.2.2.2.2.2.2.2.2.2.2.2.2.2.2.2.2.1 (by decide) hS) hfr hlo hst rfl d (K _ _ h2)
set_option maxRecDepth 100000 in
theorem p_J0_isLatin1_aae02_r101_18 {X : jX} {D : va_G} {ad : Nat → Nat} {cy : Nat → ClassId} (C : jC X (jMain D ad cy) RJ0 cJ0_isLatin1_aae02 (some .boolean) 1 0 0) {z : Int32 × jS} (Q : jRet X (jMain D ad cy) (some (.int z.1), z.2))  (a0 : Int32) (S : jS) (hE : f_J0_isLatin1_aae02_r101_18   a0 S = some z) : jJ X (jMain D ad cy) 18 [] [.int a0] S := by
  unfold f_J0_isLatin1_aae02_r101_18 at hE
  exact j_zret C Q dJ0_isLatin1_aae02_18 hE
set_option maxRecDepth 100000 in
theorem p_J0_isLatin1_aae02_r101_17 {X : jX} {D : va_G} {ad : Nat → Nat} {cy : Nat → ClassId} (C : jC X (jMain D ad cy) RJ0 cJ0_isLatin1_aae02 (some .boolean) 1 0 0) {z : Int32 × jS} (Q : jRet X (jMain D ad cy) (some (.int z.1), z.2))   (S : jS) (hE : f_J0_isLatin1_aae02_r101_17    S = some z) : jJ X (jMain D ad cy) 17 [] [] S := by
  unfold f_J0_isLatin1_aae02_r101_17 at hE
  refine j_iconst (v := 0) C dJ0_isLatin1_aae02_17 jc_ic_0 ?_
  exact p_J0_isLatin1_aae02_r101_18 C Q  0 S hE
set_option maxRecDepth 100000 in
theorem p_J0_isLatin1_aae02_r101_e {X : jX} {D : va_G} {ad : Nat → Nat} {cy : Nat → ClassId} (C : jC X (jMain D ad cy) RJ0 cJ0_isLatin1_aae02 (some .boolean) 1 0 0) {z : Int32 × jS} (Q : jRet X (jMain D ad cy) (some (.int z.1), z.2))   (S : jS) (hE : f_J0_isLatin1_aae02_r101_e    S = some z) : jJ X (jMain D ad cy) 0 [(0, .ref (ad 101))] [] S := by
  unfold f_J0_isLatin1_aae02_r101_e at hE
  refine gs_J0_38 C dJ0_isLatin1_aae02_0 ?_
  refine j_if_eq (tgt := 17) C dJ0_isLatin1_aae02_3 rfl hE (fun hE => ?_) (fun hE => ?_)
  · refine j_sub [] rfl ?_
    exact p_J0_isLatin1_aae02_r101_17 C Q   S hE
  · refine j_aload_n C dJ0_isLatin1_aae02_6 0 rfl ?_
    refine gk_J0_15_101 C dJ0_isLatin1_aae02_7 ?_
    refine j_if_ne (tgt := 17) C dJ0_isLatin1_aae02_10 rfl hE (fun hE => ?_) (fun hE => ?_)
    · refine j_sub [] rfl ?_
      exact p_J0_isLatin1_aae02_r101_17 C Q   S hE
    · refine j_iconst (v := 1) C dJ0_isLatin1_aae02_13 jc_ic_1 ?_
      refine j_goto (tgt := 18) C dJ0_isLatin1_aae02_14 rfl ?_
      refine j_sub [] rfl ?_
      exact p_J0_isLatin1_aae02_r101_18 C Q  1 S hE
theorem c_J0_isLatin1_aae02_r101 {l : Launch} {D : va_G} {ad : Nat → Nat} {cy : Nat → ClassId} (hO : jOk (jMain D ad cy))  (S : jS) {z : Int32 × jS} (hz : f_J0_isLatin1_aae02_r101  S = some z) : Met l yJ0_isLatin1_aae02 (.code yJ0_isLatin1_aae02 cJ0_isLatin1_aae02 1 (some .boolean) :: jT) { frames := 0, cells := 0, slots := 0, locals := 0 } (va_Pc [.ref (ad 101)] (jInv (jMain D ad cy) S)) (jQ (jMain D ad cy) (some (.int z.1), z.2)) 0 0 (yA (jMain D ad cy)) :=
  jMet hO (by decide +kernel) rfl (Nat.le_of_ble_eq_true rfl) (fun X _ C Q => p_J0_isLatin1_aae02_r101_e C Q  S hz)
theorem k_J0_492_J0_isLatin1_aae02_r101 {X : jX} {D : va_G} {ad : Nat → Nat} {cy : Nat → ClassId} {cc : ByteArray} {ret : Option FieldType} {nL fr lo pc : Nat} {lv : List (Nat × Value)} {st : List Value} {S : jS} {β : Type} {z : β} (C : jC X (jMain D ad cy) RJ0 cc ret nL fr lo)  {E : Int32 → jS → Option β} (d : decode cc pc = .ok (.invokevirtual 492, 3)) (hE : jcl (f_J0_isLatin1_aae02_r101  S) E = some z) (hfr : 1 ≤ fr) (hlo : 20 ≤ lo) (hst : (st.map fun v => v.category).sum ≤ 8) (K : ∀ (v : Int32) (S1 : jS), E v S1 = some z → jJ X (jMain D ad cy) (pc + 3) lv (.int v :: st) S1) : jJ X (jMain D ad cy) pc lv (.ref (ad 101) :: st) S := by
  obtain ⟨v, h1, h2⟩ := jcl_some hE
  exact j_callVK (n := 0) (As := []) C (c_J0_isLatin1_aae02_r101 C.2.2.2.2.2.2.1  S h1) tw_468 tw_469 tw_470 tw_83 tw_471 (by decide +kernel) rfl (fun H locs hS => vk_recv (adK := fun i => ad (100 + i)) (i := 1) C.2.2.2.2.2.2.2.2.2.2.2.2.2.2.2.2.2.2.1 (by decide) hS) hfr hlo hst rfl d (K _ _ h2)
set_option maxRecDepth 100000 in
theorem p_J1_charAt_3b067_r103_e {X : jX} {D : va_G} {ad : Nat → Nat} {cy : Nat → ClassId} (C : jC X (jMain D ad cy) RJ1 cJ1_charAt_3b067 (some .char) 2 2 43) {z : Int32 × jS} (Q : jRet X (jMain D ad cy) (some (.int z.1), z.2))  (x1 : Int32) (S : jS) (hE : f_J1_charAt_3b067_r103_e   x1 S = some z) : jJ X (jMain D ad cy) 0 [(0, .ref (ad 103)), (1, .int x1)] [] S := by
  unfold f_J1_charAt_3b067_r103_e at hE
  refine j_iload_n C dJ1_charAt_3b067_0 1 rfl ?_
  refine j_aload_n C dJ1_charAt_3b067_1 0 rfl ?_
  refine nk_103 C dJ1_charAt_3b067_2 ?_
  refine k_J1_9_J0_checkIndex_df160 C dJ1_charAt_3b067_3 hE (Nat.le_of_ble_eq_true rfl) (Nat.le_of_ble_eq_true rfl) (Nat.le_of_ble_eq_true rfl) (fun S1 hE => ?_)
  refine j_aload_n C dJ1_charAt_3b067_6 0 rfl ?_
  refine j_iload_n C dJ1_charAt_3b067_7 1 rfl ?_
  refine bk_103 C dJ1_charAt_3b067_8 hE (fun v2 hE => ?_)
  refine j_sipush (v := 255) C dJ1_charAt_3b067_9 jc_sp_255 ?_
  refine j_iand C dJ1_charAt_3b067_12 ?_
  refine j_i2c C dJ1_charAt_3b067_13 ?_
  exact j_cret C Q dJ1_charAt_3b067_14 hE
theorem c_J1_charAt_3b067_r103 {l : Launch} {D : va_G} {ad : Nat → Nat} {cy : Nat → ClassId} (hO : jOk (jMain D ad cy)) (x1 : Int32) (S : jS) {z : Int32 × jS} (hz : f_J1_charAt_3b067_r103 x1 S = some z) : Met l yJ1_charAt_3b067 (.code yJ1_charAt_3b067 cJ1_charAt_3b067 2 (some .char) :: jT) { frames := 2, cells := 0, slots := 0, locals := 43 } (va_Pc [.ref (ad 103), .int x1] (jInv (jMain D ad cy) S)) (jQ (jMain D ad cy) (some (.int z.1), z.2)) 0 0 (yA (jMain D ad cy)) :=
  jMet hO (by decide +kernel) rfl (Nat.le_of_ble_eq_true rfl) (fun X _ C Q => p_J1_charAt_3b067_r103_e C Q x1 S hz)
theorem k_J0_495_J1_charAt_3b067_r103 {X : jX} {D : va_G} {ad : Nat → Nat} {cy : Nat → ClassId} {cc : ByteArray} {ret : Option FieldType} {nL fr lo pc : Nat} {lv : List (Nat × Value)} {st : List Value} {S : jS} {β : Type} {z : β} (C : jC X (jMain D ad cy) RJ0 cc ret nL fr lo) {a1 : Int32} {E : Int32 → jS → Option β} (d : decode cc pc = .ok (.invokestatic 495, 3)) (hE : jcl (f_J1_charAt_3b067_r103 a1 S) E = some z) (hfr : 3 ≤ fr) (hlo : 64 ≤ lo) (hst : (st.map fun v => v.category).sum ≤ 8) (K : ∀ (v : Int32) (S1 : jS), E v S1 = some z → jJ X (jMain D ad cy) (pc + 3) lv (.int v :: st) S1) : jJ X (jMain D ad cy) pc lv (.int a1 :: .ref (ad 103) :: st) S := by
  obtain ⟨v, h1, h2⟩ := jcl_some hE
  exact j_callS (n := 2) (As := [.ref (ad 103), .int a1]) C (c_J1_charAt_3b067_r103 C.2.2.2.2.2.2.1 a1 S h1) tw_472 tw_473 tw_84 tw_474 (by decide +kernel) rfl hfr hlo hst rfl d (K _ _ h2)
set_option maxRecDepth 100000 in
theorem p_J0_charAt_5068e_r101_e {X : jX} {D : va_G} {ad : Nat → Nat} {cy : Nat → ClassId} (C : jC X (jMain D ad cy) RJ0 cJ0_charAt_5068e (some .char) 2 3 64) {z : Int32 × jS} (Q : jRet X (jMain D ad cy) (some (.int z.1), z.2))  (x1 : Int32) (S : jS) (hE : f_J0_charAt_5068e_r101_e   x1 S = some z) : jJ X (jMain D ad cy) 0 [(0, .ref (ad 101)), (1, .int x1)] [] S := by
  unfold f_J0_charAt_5068e_r101_e at hE
  refine j_aload_n C dJ0_charAt_5068e_0 0 rfl ?_
  refine k_J0_492_J0_isLatin1_aae02_r101 C dJ0_charAt_5068e_1 hE (Nat.le_of_ble_eq_true rfl) (Nat.le_of_ble_eq_true rfl) (Nat.le_of_ble_eq_true rfl) (fun v2 S1 hE => ?_)
  refine j_if_eq (tgt := 16) C dJ0_charAt_5068e_4 rfl hE (fun hE => ?_) (fun hE => ?_)
  · refine j_aload_n C dJ0_charAt_5068e_16 0 rfl ?_
    refine gk_J0_9_101 C dJ0_charAt_5068e_17 ?_
    refine j_iload_n C dJ0_charAt_5068e_20 1 rfl ?_
    cases hE
  · refine j_aload_n C dJ0_charAt_5068e_7 0 rfl ?_
    refine gk_J0_9_101 C dJ0_charAt_5068e_8 ?_
    refine j_iload_n C dJ0_charAt_5068e_11 1 rfl ?_
    refine k_J0_495_J1_charAt_3b067_r103 C dJ0_charAt_5068e_12 hE (Nat.le_of_ble_eq_true rfl) (Nat.le_of_ble_eq_true rfl) (Nat.le_of_ble_eq_true rfl) (fun v4 S3 hE => ?_)
    exact j_cret C Q dJ0_charAt_5068e_15 hE
theorem c_J0_charAt_5068e_r101 {l : Launch} {D : va_G} {ad : Nat → Nat} {cy : Nat → ClassId} (hO : jOk (jMain D ad cy)) (x1 : Int32) (S : jS) {z : Int32 × jS} (hz : f_J0_charAt_5068e_r101 x1 S = some z) : Met l yJ0_charAt_5068e (.code yJ0_charAt_5068e cJ0_charAt_5068e 2 (some .char) :: jT) { frames := 3, cells := 0, slots := 0, locals := 64 } (va_Pc [.ref (ad 101), .int x1] (jInv (jMain D ad cy) S)) (jQ (jMain D ad cy) (some (.int z.1), z.2)) 0 0 (yA (jMain D ad cy)) :=
  jMet hO (by decide +kernel) rfl (Nat.le_of_ble_eq_true rfl) (fun X _ C Q => p_J0_charAt_5068e_r101_e C Q x1 S hz)
theorem k_X7_81_J0_charAt_5068e_r101 {X : jX} {D : va_G} {ad : Nat → Nat} {cy : Nat → ClassId} {cc : ByteArray} {ret : Option FieldType} {nL fr lo pc : Nat} {lv : List (Nat × Value)} {st : List Value} {S : jS} {β : Type} {z : β} (C : jC X (jMain D ad cy) RX7 cc ret nL fr lo) {a0 : Int32} {E : Int32 → jS → Option β} (d : decode cc pc = .ok (.invokevirtual 81, 3)) (hE : jcl (f_J0_charAt_5068e_r101 a0 S) E = some z) (hfr : 4 ≤ fr) (hlo : 85 ≤ lo) (hst : (st.map fun v => v.category).sum ≤ 8) (K : ∀ (v : Int32) (S1 : jS), E v S1 = some z → jJ X (jMain D ad cy) (pc + 3) lv (.int v :: st) S1) : jJ X (jMain D ad cy) pc lv (.int a0 :: .ref (ad 101) :: st) S := by
  obtain ⟨v, h1, h2⟩ := jcl_some hE
  exact j_callVK (n := 1) (As := [.int a0]) C (c_J0_charAt_5068e_r101 C.2.2.2.2.2.2.1 a0 S h1) tw_464 tw_465 tw_466 tw_83 tw_467 (by decide +kernel) rfl (fun H locs hS => vk_recv (adK := fun i => ad (100 + i)) (i := 1) C.2.2.2.2.2.2.2.2.2.2.2.2.2.2.2.2.2.2.1 (by decide) hS) hfr hlo hst rfl d (K _ _ h2)
set_option maxRecDepth 100000 in
theorem p_X7_tokenIs_r101_20 {X : jX} {D : va_G} {ad : Nat → Nat} {cy : Nat → ClassId} (C : jC X (jMain D ad cy) RX7 cX7_tokenIs (some .boolean) 3 4 85) {z : Int32 × jS} (Q : jRet X (jMain D ad cy) (some (.int z.1), z.2)) {g : Int32 → jS → Option (Int32 × jS)} (hg : ∀ (x2 : Int32) (S : jS), g x2 S = some z → jJ X (jMain D ad cy) 20 [(0, .ref (ad 18)), (1, .ref (ad 101)), (2, .int x2)] [] S) {k46 : jS → Option (Int32 × jS)} (hk46 : ∀  (S : jS), k46  S = some z → jJ X (jMain D ad cy) 46 [] [] S) {k54 : jS → Option (Int32 × jS)} (hk54 : ∀  (S : jS), k54  S = some z → jJ X (jMain D ad cy) 54 [] [] S) (x2 : Int32) (S : jS) (hE : f_X7_tokenIs_r101_20  g k46 k54 x2 S = some z) : jJ X (jMain D ad cy) 20 [(0, .ref (ad 18)), (1, .ref (ad 101)), (2, .int x2)] [] S := by
  unfold f_X7_tokenIs_r101_20 at hE
  refine j_iload_n C dX7_tokenIs_20 2 rfl ?_
  refine j_aload_n C dX7_tokenIs_21 1 rfl ?_
  refine k_X7_73_J0_length_8abf5_r101 C dX7_tokenIs_22 hE (Nat.le_of_ble_eq_true rfl) (Nat.le_of_ble_eq_true rfl) (Nat.le_of_ble_eq_true rfl) (fun v2 S1 hE => ?_)
  refine j_icmp_ge (tgt := 54) C dX7_tokenIs_25 rfl hE (fun hE => ?_) (fun hE => ?_)
  · refine j_sub [] rfl ?_
    exact hk54  S1 hE
  · refine j_aload_n C dX7_tokenIs_28 0 rfl ?_
    refine j_aload_n C dX7_tokenIs_29 0 rfl ?_
    refine g_X7_70_18 C dX7_tokenIs_30 ?_
    refine j_iload_n C dX7_tokenIs_33 2 rfl ?_
    refine j_iadd C dX7_tokenIs_34 ?_
    refine k_X7_78_X7_byteAt C dX7_tokenIs_35 hE (Nat.le_of_ble_eq_true rfl) (Nat.le_of_ble_eq_true rfl) (Nat.le_of_ble_eq_true rfl) (fun v4 S3 hE => ?_)
    refine j_aload_n C dX7_tokenIs_38 1 rfl ?_
    refine j_iload_n C dX7_tokenIs_39 2 rfl ?_
    refine k_X7_81_J0_charAt_5068e_r101 C dX7_tokenIs_40 hE (Nat.le_of_ble_eq_true rfl) (Nat.le_of_ble_eq_true rfl) (Nat.le_of_ble_eq_true rfl) (fun v6 S5 hE => ?_)
    refine j_icmp_eq (tgt := 48) C dX7_tokenIs_43 rfl hE (fun hE => ?_) (fun hE => ?_)
    · refine j_iinc (v := (x2 + 1)) (lv' := [(2, .int (x2 + 1)), (0, .ref (ad 18)), (1, .ref (ad 101))]) C dX7_tokenIs_48 2 rfl (congrArg (fun w => x2 + w) jc_ic_1) (by decide) rfl ?_
      refine j_goto (tgt := 20) C dX7_tokenIs_51 rfl ?_
      refine j_sub [1, 2, 0] rfl ?_
      exact hg (x2 + 1) S5 hE
    · refine j_sub [] rfl ?_
      exact hk46  S5 hE
theorem q_X7_tokenIs_r101_20 {X : jX} {D : va_G} {ad : Nat → Nat} {cy : Nat → ClassId} (C : jC X (jMain D ad cy) RX7 cX7_tokenIs (some .boolean) 3 4 85) {z : Int32 × jS} (Q : jRet X (jMain D ad cy) (some (.int z.1), z.2)) {k46 : jS → Option (Int32 × jS)} (hk46 : ∀  (S : jS), k46  S = some z → jJ X (jMain D ad cy) 46 [] [] S) {k54 : jS → Option (Int32 × jS)} (hk54 : ∀  (S : jS), k54  S = some z → jJ X (jMain D ad cy) 54 [] [] S) (x2 : Int32) (S : jS) (hE : lp_X7_tokenIs_r101_20  k46 k54 x2 S = some z) : jJ X (jMain D ad cy) 20 [(0, .ref (ad 18)), (1, .ref (ad 101)), (2, .int x2)] [] S :=
  jloop_P (α := Int32 × jS) (B := (fun g q => f_X7_tokenIs_r101_20  (fun x2 S => g (x2, S)) k46 k54 q.1 q.2)) (P := fun q => jJ X (jMain D ad cy) 20 [(0, .ref (ad 18)), (1, .ref (ad 101)), (2, .int q.1)] [] q.2) (fun g q hg h => p_X7_tokenIs_r101_20 C Q (g := fun x2 S => g (x2, S)) (fun x2 S h => hg (x2, S) h) hk46 hk54 q.1 q.2 h) jN (x2, S) hE
set_option maxRecDepth 100000 in
theorem p_X7_tokenIs_r101_46 {X : jX} {D : va_G} {ad : Nat → Nat} {cy : Nat → ClassId} (C : jC X (jMain D ad cy) RX7 cX7_tokenIs (some .boolean) 3 4 85) {z : Int32 × jS} (Q : jRet X (jMain D ad cy) (some (.int z.1), z.2))   (S : jS) (hE : f_X7_tokenIs_r101_46    S = some z) : jJ X (jMain D ad cy) 46 [] [] S := by
  unfold f_X7_tokenIs_r101_46 at hE
  refine j_iconst (v := 0) C dX7_tokenIs_46 jc_ic_0 ?_
  exact j_zret C Q dX7_tokenIs_47 hE
set_option maxRecDepth 100000 in
theorem p_X7_tokenIs_r101_54 {X : jX} {D : va_G} {ad : Nat → Nat} {cy : Nat → ClassId} (C : jC X (jMain D ad cy) RX7 cX7_tokenIs (some .boolean) 3 4 85) {z : Int32 × jS} (Q : jRet X (jMain D ad cy) (some (.int z.1), z.2))   (S : jS) (hE : f_X7_tokenIs_r101_54    S = some z) : jJ X (jMain D ad cy) 54 [] [] S := by
  unfold f_X7_tokenIs_r101_54 at hE
  refine j_iconst (v := 1) C dX7_tokenIs_54 jc_ic_1 ?_
  exact j_zret C Q dX7_tokenIs_55 hE
set_option maxRecDepth 100000 in
theorem p_X7_tokenIs_r101_e {X : jX} {D : va_G} {ad : Nat → Nat} {cy : Nat → ClassId} (C : jC X (jMain D ad cy) RX7 cX7_tokenIs (some .boolean) 3 4 85) {z : Int32 × jS} (Q : jRet X (jMain D ad cy) (some (.int z.1), z.2))   (S : jS) (hE : f_X7_tokenIs_r101_e    S = some z) : jJ X (jMain D ad cy) 0 [(0, .ref (ad 18)), (1, .ref (ad 101))] [] S := by
  unfold f_X7_tokenIs_r101_e at hE
  refine j_aload_n C dX7_tokenIs_0 0 rfl ?_
  refine g_X7_29_18 C dX7_tokenIs_1 ?_
  refine j_aload_n C dX7_tokenIs_4 0 rfl ?_
  refine g_X7_70_18 C dX7_tokenIs_5 ?_
  refine j_isub C dX7_tokenIs_8 ?_
  refine j_aload_n C dX7_tokenIs_9 1 rfl ?_
  refine k_X7_73_J0_length_8abf5_r101 C dX7_tokenIs_10 hE (Nat.le_of_ble_eq_true rfl) (Nat.le_of_ble_eq_true rfl) (Nat.le_of_ble_eq_true rfl) (fun v2 S1 hE => ?_)
  refine j_icmp_eq (tgt := 18) C dX7_tokenIs_13 rfl hE (fun hE => ?_) (fun hE => ?_)
  · refine j_iconst (v := 0) C dX7_tokenIs_18 jc_ic_0 ?_
    refine j_istore_n (i := 2) (lv' := [(2, .int 0), (0, .ref (ad 18)), (1, .ref (ad 101))]) C dX7_tokenIs_19 rfl (by decide) rfl ?_
    refine j_sub [1, 2, 0] rfl ?_
    exact q_X7_tokenIs_r101_20 C Q (p_X7_tokenIs_r101_46 C Q ) (p_X7_tokenIs_r101_54 C Q ) 0 S1 hE
  · refine j_iconst (v := 0) C dX7_tokenIs_16 jc_ic_0 ?_
    exact j_zret C Q dX7_tokenIs_17 hE
theorem c_X7_tokenIs_r101 {l : Launch} {D : va_G} {ad : Nat → Nat} {cy : Nat → ClassId} (hO : jOk (jMain D ad cy))  (S : jS) {z : Int32 × jS} (hz : f_X7_tokenIs_r101  S = some z) : Met l yX7_tokenIs (.code yX7_tokenIs cX7_tokenIs 3 (some .boolean) :: jT) { frames := 4, cells := 0, slots := 0, locals := 85 } (va_Pc [.ref (ad 18), .ref (ad 101)] (jInv (jMain D ad cy) S)) (jQ (jMain D ad cy) (some (.int z.1), z.2)) 0 0 (yA (jMain D ad cy)) :=
  jMet hO (by decide +kernel) rfl (Nat.le_of_ble_eq_true rfl) (fun X _ C Q => p_X7_tokenIs_r101_e C Q  S hz)
theorem k_X7_66_X7_tokenIs_r101 {X : jX} {D : va_G} {ad : Nat → Nat} {cy : Nat → ClassId} {cc : ByteArray} {ret : Option FieldType} {nL fr lo pc : Nat} {lv : List (Nat × Value)} {st : List Value} {S : jS} {β : Type} {z : β} (C : jC X (jMain D ad cy) RX7 cc ret nL fr lo)  {E : Int32 → jS → Option β} (d : decode cc pc = .ok (.invokevirtual 66, 3)) (hE : jcl (f_X7_tokenIs_r101  S) E = some z) (hfr : 5 ≤ fr) (hlo : 107 ≤ lo) (hst : (st.map fun v => v.category).sum ≤ 8) (K : ∀ (v : Int32) (S1 : jS), E v S1 = some z → jJ X (jMain D ad cy) (pc + 3) lv (.int v :: st) S1) : jJ X (jMain D ad cy) pc lv (.ref (ad 101) :: .ref (ad 18) :: st) S := by
  obtain ⟨v, h1, h2⟩ := jcl_some hE
  exact j_callV (k := 18) (ci := 7) (T := TX7) (N := 10) (n := 1) (As := [.ref (ad 101)]) C (c_X7_tokenIs_r101 C.2.2.2.2.2.2.1  S h1) tw_450 tw_452 tw_9 tw_79 tw_453 (by decide +kernel) rfl (by decide : 18 < 56) rfl rfl hfr hlo hst rfl d (K _ _ h2)
set_option maxRecDepth 100000 in
theorem p_X7_expectWord_r101_24 {X : jX} {D : va_G} {ad : Nat → Nat} {cy : Nat → ClassId} (C : jC X (jMain D ad cy) RX7 cX7_expectWord (none) 2 5 107) {z : jS} (Q : jRet X (jMain D ad cy) (none, z))   (S : jS) (hE : f_X7_expectWord_r101_24    S = some z) : jJ X (jMain D ad cy) 24 [] [] S := by
  unfold f_X7_expectWord_r101_24 at hE
  exact j_vret C Q dX7_expectWord_24 hE
set_option maxRecDepth 100000 in
theorem p_X7_expectWord_r101_16 {X : jX} {D : va_G} {ad : Nat → Nat} {cy : Nat → ClassId} (C : jC X (jMain D ad cy) RX7 cX7_expectWord (none) 2 5 107) {z : jS} (Q : jRet X (jMain D ad cy) (none, z))   (S : jS) (hE : f_X7_expectWord_r101_16    S = some z) : jJ X (jMain D ad cy) 16 [(0, .ref (ad 18))] [] S := by
  unfold f_X7_expectWord_r101_16 at hE
  refine j_aload_n C dX7_expectWord_16 0 rfl ?_
  refine j_aload_n C dX7_expectWord_17 0 rfl ?_
  refine g_X7_70_18 C dX7_expectWord_18 ?_
  refine p_X7_15_18 C dX7_expectWord_21 hE (fun S1 hE => ?_)
  refine j_sub [] rfl ?_
  exact p_X7_expectWord_r101_24 C Q   S1 hE
set_option maxRecDepth 100000 in
theorem p_X7_expectWord_r101_e {X : jX} {D : va_G} {ad : Nat → Nat} {cy : Nat → ClassId} (C : jC X (jMain D ad cy) RX7 cX7_expectWord (none) 2 5 107) {z : jS} (Q : jRet X (jMain D ad cy) (none, z))   (S : jS) (hE : f_X7_expectWord_r101_e    S = some z) : jJ X (jMain D ad cy) 0 [(0, .ref (ad 18)), (1, .ref (ad 101))] [] S := by
  unfold f_X7_expectWord_r101_e at hE
  refine j_aload_n C dX7_expectWord_0 0 rfl ?_
  refine g_X7_38_18 C dX7_expectWord_1 ?_
  refine j_iconst (v := 1) C dX7_expectWord_4 jc_ic_1 ?_
  refine j_icmp_ne (tgt := 16) C dX7_expectWord_5 rfl hE (fun hE => ?_) (fun hE => ?_)
  · refine j_sub [0] rfl ?_
    exact p_X7_expectWord_r101_16 C Q   S hE
  · refine j_aload_n C dX7_expectWord_8 0 rfl ?_
    refine j_aload_n C dX7_expectWord_9 1 rfl ?_
    refine k_X7_66_X7_tokenIs_r101 C dX7_expectWord_10 hE (Nat.le_of_ble_eq_true rfl) (Nat.le_of_ble_eq_true rfl) (Nat.le_of_ble_eq_true rfl) (fun v2 S1 hE => ?_)
    refine j_if_ne (tgt := 24) C dX7_expectWord_13 rfl hE (fun hE => ?_) (fun hE => ?_)
    · refine j_sub [] rfl ?_
      exact p_X7_expectWord_r101_24 C Q   S1 hE
    · refine j_sub [0] rfl ?_
      exact p_X7_expectWord_r101_16 C Q   S1 hE
theorem c_X7_expectWord_r101 {l : Launch} {D : va_G} {ad : Nat → Nat} {cy : Nat → ClassId} (hO : jOk (jMain D ad cy))  (S : jS) {z : jS} (hz : f_X7_expectWord_r101  S = some z) : Met l yX7_expectWord (.code yX7_expectWord cX7_expectWord 2 (none) :: jT) { frames := 5, cells := 0, slots := 0, locals := 107 } (va_Pc [.ref (ad 18), .ref (ad 101)] (jInv (jMain D ad cy) S)) (jQ (jMain D ad cy) (none, z)) 0 0 (yA (jMain D ad cy)) :=
  jMet hO (by decide +kernel) rfl (Nat.le_of_ble_eq_true rfl) (fun X _ C Q => p_X7_expectWord_r101_e C Q  S hz)
theorem k_X7_46_X7_expectWord_r101 {X : jX} {D : va_G} {ad : Nat → Nat} {cy : Nat → ClassId} {cc : ByteArray} {ret : Option FieldType} {nL fr lo pc : Nat} {lv : List (Nat × Value)} {st : List Value} {S : jS} {β : Type} {z : β} (C : jC X (jMain D ad cy) RX7 cc ret nL fr lo)  {E : jS → Option β} (d : decode cc pc = .ok (.invokevirtual 46, 3)) (hE : jcv (f_X7_expectWord_r101  S) E = some z) (hfr : 6 ≤ fr) (hlo : 128 ≤ lo) (hst : (st.map fun v => v.category).sum ≤ 8) (K : ∀ S1, E S1 = some z → jJ X (jMain D ad cy) (pc + 3) lv st S1) : jJ X (jMain D ad cy) pc lv (.ref (ad 101) :: .ref (ad 18) :: st) S := by
  obtain ⟨v, h1, h2⟩ := jcv_some hE
  exact j_callV (k := 18) (ci := 7) (T := TX7) (N := 10) (n := 1) (As := [.ref (ad 101)]) C (c_X7_expectWord_r101 C.2.2.2.2.2.2.1  S h1) tw_446 tw_448 tw_8 tw_79 tw_449 (by decide +kernel) rfl (by decide : 18 < 56) rfl rfl hfr hlo hst rfl d (K _ h2)
set_option maxRecDepth 100000 in
theorem p_X7_parseHouse_39 {X : jX} {D : va_G} {ad : Nat → Nat} {cy : Nat → ClassId} (C : jC X (jMain D ad cy) RX7 cX7_parseHouse (none) 3 6 128) {z : jS} (Q : jRet X (jMain D ad cy) (none, z))   (S : jS) (hE : f_X7_parseHouse_39    S = some z) : jJ X (jMain D ad cy) 39 [(0, .ref (ad 18))] [] S := by
  unfold f_X7_parseHouse_39 at hE
  refine j_aload_n C dX7_parseHouse_39 0 rfl ?_
  refine j_dup C dX7_parseHouse_40 rfl ?_
  refine g_X7_26_18 C dX7_parseHouse_41 ?_
  refine j_iconst (v := 1) C dX7_parseHouse_44 jc_ic_1 ?_
  refine j_iadd C dX7_parseHouse_45 ?_
  refine p_X7_26_18 C dX7_parseHouse_46 hE (fun S1 hE => ?_)
  exact j_vret C Q dX7_parseHouse_49 hE
set_option maxRecDepth 100000 in
theorem p_X7_parseHouse_e {X : jX} {D : va_G} {ad : Nat → Nat} {cy : Nat → ClassId} (C : jC X (jMain D ad cy) RX7 cX7_parseHouse (none) 3 6 128) {z : jS} (Q : jRet X (jMain D ad cy) (none, z))   (S : jS) (hE : f_X7_parseHouse_e    S = some z) : jJ X (jMain D ad cy) 0 [(0, .ref (ad 18))] [] S := by
  unfold f_X7_parseHouse_e at hE
  refine j_aload_n C dX7_parseHouse_0 0 rfl ?_
  refine j_ldcS C C.2.2.2.2.2.2.2.2.2.2.2.2.2.2.2.2.2.1 dX7_parseHouse_1 ?_
  refine k_X7_46_X7_expectWord_r101 C dX7_parseHouse_3 hE (Nat.le_of_ble_eq_true rfl) (Nat.le_of_ble_eq_true rfl) (Nat.le_of_ble_eq_true rfl) (fun S1 hE => ?_)
  refine j_aload_n C dX7_parseHouse_6 0 rfl ?_
  refine j_bipush (v := 7) C dX7_parseHouse_7 jc_bp_7 ?_
  refine k_X7_50_X7_expectNumber C dX7_parseHouse_9 hE (Nat.le_of_ble_eq_true rfl) (Nat.le_of_ble_eq_true rfl) (Nat.le_of_ble_eq_true rfl) (fun v3 S2 hE => ?_)
  refine j_istore_n (i := 1) (lv' := [(1, .int v3), (0, .ref (ad 18))]) C dX7_parseHouse_12 rfl (by decide) rfl ?_
  refine j_aload_n C dX7_parseHouse_13 1 rfl ?_
  refine j_sipush (v := 300) C dX7_parseHouse_14 jc_sp_300 ?_
  refine k_X7_50_X7_expectNumber C dX7_parseHouse_17 hE (Nat.le_of_ble_eq_true rfl) (Nat.le_of_ble_eq_true rfl) (Nat.le_of_ble_eq_true rfl) (fun v5 S4 hE => ?_)
  refine j_istore_n (i := 2) (lv' := [(2, .int v5), (1, .int v3), (0, .ref (ad 18))]) C dX7_parseHouse_20 rfl (by decide) rfl ?_
  refine j_aload_n C dX7_parseHouse_21 2 rfl ?_
  refine k_X7_54_X7_expectStop C dX7_parseHouse_22 hE (Nat.le_of_ble_eq_true rfl) (Nat.le_of_ble_eq_true rfl) (Nat.le_of_ble_eq_true rfl) (fun S6 hE => ?_)
  refine j_iload_n C dX7_parseHouse_25 1 rfl ?_
  refine k_X7_62_X11_isHouse C dX7_parseHouse_26 hE (Nat.le_of_ble_eq_true rfl) (Nat.le_of_ble_eq_true rfl) (Nat.le_of_ble_eq_true rfl) (fun v8 S7 hE => ?_)
  refine j_if_eq (tgt := 39) C dX7_parseHouse_29 rfl hE (fun hE => ?_) (fun hE => ?_)
  · refine j_sub [2] rfl ?_
    exact p_X7_parseHouse_39 C Q   S7 hE
  · refine j_aload_n C dX7_parseHouse_32 2 rfl ?_
    refine g_X7_9_18 C dX7_parseHouse_33 ?_
    refine j_iload_n C dX7_parseHouse_36 1 rfl ?_
    refine j_iload_n C dX7_parseHouse_37 0 rfl ?_
    refine s_19 C dX7_parseHouse_38 hE (fun S9 hE => ?_)
    refine j_sub [2] rfl ?_
    exact p_X7_parseHouse_39 C Q   S9 hE
theorem c_X7_parseHouse {l : Launch} {D : va_G} {ad : Nat → Nat} {cy : Nat → ClassId} (hO : jOk (jMain D ad cy))  (S : jS) {z : jS} (hz : f_X7_parseHouse  S = some z) : Met l yX7_parseHouse (.code yX7_parseHouse cX7_parseHouse 3 (none) :: jT) { frames := 6, cells := 0, slots := 0, locals := 128 } (va_Pc [.ref (ad 18)] (jInv (jMain D ad cy) S)) (jQ (jMain D ad cy) (none, z)) 0 0 (yA (jMain D ad cy)) :=
  jMet hO (by decide +kernel) rfl (Nat.le_of_ble_eq_true rfl) (fun X _ C Q => p_X7_parseHouse_e C Q  S hz)
theorem k_X7_41_X7_parseHouse {X : jX} {D : va_G} {ad : Nat → Nat} {cy : Nat → ClassId} {cc : ByteArray} {ret : Option FieldType} {nL fr lo pc : Nat} {lv : List (Nat × Value)} {st : List Value} {S : jS} {β : Type} {z : β} (C : jC X (jMain D ad cy) RX7 cc ret nL fr lo)  {E : jS → Option β} (d : decode cc pc = .ok (.invokevirtual 41, 3)) (hE : jcv (f_X7_parseHouse  S) E = some z) (hfr : 7 ≤ fr) (hlo : 150 ≤ lo) (hst : (st.map fun v => v.category).sum ≤ 8) (K : ∀ S1, E S1 = some z → jJ X (jMain D ad cy) (pc + 3) lv st S1) : jJ X (jMain D ad cy) pc lv (.ref (ad 18) :: st) S := by
  obtain ⟨v, h1, h2⟩ := jcv_some hE
  exact j_callV (k := 18) (ci := 7) (T := TX7) (N := 10) (n := 0) (As := []) C (c_X7_parseHouse C.2.2.2.2.2.2.1  S h1) tw_510 tw_512 tw_12 tw_79 tw_513 (by decide +kernel) rfl (by decide : 18 < 56) rfl rfl hfr hlo hst rfl d (K _ h2)
set_option maxRecDepth 100000 in
theorem p_X7_parse_17 {X : jX} {D : va_G} {ad : Nat → Nat} {cy : Nat → ClassId} (C : jC X (jMain D ad cy) RX7 cX7_parse (none) 2 7 150) {z : jS} (Q : jRet X (jMain D ad cy) (none, z)) {g : Int32 → jS → Option (jS)} (hg : ∀ (x1 : Int32) (S : jS), g x1 S = some z → jJ X (jMain D ad cy) 17 [(0, .ref (ad 18)), (1, .int x1)] [] S) {k36 : jS → Option (jS)} (hk36 : ∀  (S : jS), k36  S = some z → jJ X (jMain D ad cy) 36 [(0, .ref (ad 18))] [] S) (x1 : Int32) (S : jS) (hE : f_X7_parse_17  g k36 x1 S = some z) : jJ X (jMain D ad cy) 17 [(0, .ref (ad 18)), (1, .int x1)] [] S := by
  unfold f_X7_parse_17 at hE
  refine j_iload_n C dX7_parse_17 1 rfl ?_
  refine j_bipush (v := 8) C dX7_parse_18 jc_bp_8 ?_
  refine j_icmp_ge (tgt := 36) C dX7_parse_20 rfl hE (fun hE => ?_) (fun hE => ?_)
  · refine j_sub [0] rfl ?_
    exact hk36  S hE
  · refine j_aload_n C dX7_parse_23 0 rfl ?_
    refine g_X7_9_18 C dX7_parse_24 ?_
    refine j_iload_n C dX7_parse_27 1 rfl ?_
    refine j_iconst (v := 0) C dX7_parse_28 jc_ic_0 ?_
    refine s_19 C dX7_parse_29 hE (fun S1 hE => ?_)
    refine j_iinc (v := (x1 + 1)) (lv' := [(1, .int (x1 + 1)), (0, .ref (ad 18))]) C dX7_parse_30 1 rfl (congrArg (fun w => x1 + w) jc_ic_1) (by decide) rfl ?_
    refine j_goto (tgt := 17) C dX7_parse_33 rfl ?_
    refine j_sub [1, 0] rfl ?_
    exact hg (x1 + 1) S1 hE
theorem q_X7_parse_17 {X : jX} {D : va_G} {ad : Nat → Nat} {cy : Nat → ClassId} (C : jC X (jMain D ad cy) RX7 cX7_parse (none) 2 7 150) {z : jS} (Q : jRet X (jMain D ad cy) (none, z)) {k36 : jS → Option (jS)} (hk36 : ∀  (S : jS), k36  S = some z → jJ X (jMain D ad cy) 36 [(0, .ref (ad 18))] [] S) (x1 : Int32) (S : jS) (hE : lp_X7_parse_17  k36 x1 S = some z) : jJ X (jMain D ad cy) 17 [(0, .ref (ad 18)), (1, .int x1)] [] S :=
  jloop_P (α := Int32 × jS) (B := (fun g q => f_X7_parse_17  (fun x1 S => g (x1, S)) k36 q.1 q.2)) (P := fun q => jJ X (jMain D ad cy) 17 [(0, .ref (ad 18)), (1, .int q.1)] [] q.2) (fun g q hg h => p_X7_parse_17 C Q (g := fun x1 S => g (x1, S)) (fun x1 S h => hg (x1, S) h) hk36 q.1 q.2 h) jN (x1, S) hE
set_option maxRecDepth 100000 in
theorem p_X7_parse_46 {X : jX} {D : va_G} {ad : Nat → Nat} {cy : Nat → ClassId} (C : jC X (jMain D ad cy) RX7 cX7_parse (none) 2 7 150) {z : jS} (Q : jRet X (jMain D ad cy) (none, z)) {g : Int32 → jS → Option (jS)} (hg : ∀ (x1 : Int32) (S : jS), g x1 S = some z → jJ X (jMain D ad cy) 46 [(0, .ref (ad 18)), (1, .int x1)] [] S) {k72 : jS → Option (jS)} (hk72 : ∀  (S : jS), k72  S = some z → jJ X (jMain D ad cy) 72 [] [] S) {k83 : jS → Option (jS)} (hk83 : ∀  (S : jS), k83  S = some z → jJ X (jMain D ad cy) 83 [] [] S) (x1 : Int32) (S : jS) (hE : f_X7_parse_46  g k72 k83 x1 S = some z) : jJ X (jMain D ad cy) 46 [(0, .ref (ad 18)), (1, .int x1)] [] S := by
  unfold f_X7_parse_46 at hE
  refine j_iload_n C dX7_parse_46 1 rfl ?_
  refine j_sipush (v := 150) C dX7_parse_47 jc_sp_150 ?_
  refine j_icmp_ge (tgt := 83) C dX7_parse_50 rfl hE (fun hE => ?_) (fun hE => ?_)
  · refine j_sub [] rfl ?_
    exact hk83  S hE
  · refine j_aload_n C dX7_parse_53 0 rfl ?_
    refine g_X7_15_18 C dX7_parse_54 ?_
    refine j_iconst (v := (-1)) C dX7_parse_57 jc_ic_m1 ?_
    refine j_icmp_ne (tgt := 83) C dX7_parse_58 rfl hE (fun hE => ?_) (fun hE => ?_)
    · refine j_sub [] rfl ?_
      exact hk83  S hE
    · refine j_aload_n C dX7_parse_61 0 rfl ?_
      refine k_X7_32_X7_scan C dX7_parse_62 hE (Nat.le_of_ble_eq_true rfl) (Nat.le_of_ble_eq_true rfl) (Nat.le_of_ble_eq_true rfl) (fun S1 hE => ?_)
      refine j_aload_n C dX7_parse_65 0 rfl ?_
      refine g_X7_38_18 C dX7_parse_66 ?_
      refine j_if_ne (tgt := 73) C dX7_parse_69 rfl hE (fun hE => ?_) (fun hE => ?_)
      · refine j_aload_n C dX7_parse_73 0 rfl ?_
        refine k_X7_41_X7_parseHouse C dX7_parse_74 hE (Nat.le_of_ble_eq_true rfl) (Nat.le_of_ble_eq_true rfl) (Nat.le_of_ble_eq_true rfl) (fun S2 hE => ?_)
        refine j_iinc (v := (x1 + 1)) (lv' := [(1, .int (x1 + 1)), (0, .ref (ad 18))]) C dX7_parse_77 1 rfl (congrArg (fun w => x1 + w) jc_ic_1) (by decide) rfl ?_
        refine j_goto (tgt := 46) C dX7_parse_80 rfl ?_
        refine j_sub [1, 0] rfl ?_
        exact hg (x1 + 1) S2 hE
      · refine j_sub [] rfl ?_
        exact hk72  S1 hE
theorem q_X7_parse_46 {X : jX} {D : va_G} {ad : Nat → Nat} {cy : Nat → ClassId} (C : jC X (jMain D ad cy) RX7 cX7_parse (none) 2 7 150) {z : jS} (Q : jRet X (jMain D ad cy) (none, z)) {k72 : jS → Option (jS)} (hk72 : ∀  (S : jS), k72  S = some z → jJ X (jMain D ad cy) 72 [] [] S) {k83 : jS → Option (jS)} (hk83 : ∀  (S : jS), k83  S = some z → jJ X (jMain D ad cy) 83 [] [] S) (x1 : Int32) (S : jS) (hE : lp_X7_parse_46  k72 k83 x1 S = some z) : jJ X (jMain D ad cy) 46 [(0, .ref (ad 18)), (1, .int x1)] [] S :=
  jloop_P (α := Int32 × jS) (B := (fun g q => f_X7_parse_46  (fun x1 S => g (x1, S)) k72 k83 q.1 q.2)) (P := fun q => jJ X (jMain D ad cy) 46 [(0, .ref (ad 18)), (1, .int q.1)] [] q.2) (fun g q hg h => p_X7_parse_46 C Q (g := fun x1 S => g (x1, S)) (fun x1 S h => hg (x1, S) h) hk72 hk83 q.1 q.2 h) jN (x1, S) hE
set_option maxRecDepth 100000 in
theorem p_X7_parse_72 {X : jX} {D : va_G} {ad : Nat → Nat} {cy : Nat → ClassId} (C : jC X (jMain D ad cy) RX7 cX7_parse (none) 2 7 150) {z : jS} (Q : jRet X (jMain D ad cy) (none, z))   (S : jS) (hE : f_X7_parse_72    S = some z) : jJ X (jMain D ad cy) 72 [] [] S := by
  unfold f_X7_parse_72 at hE
  exact j_vret C Q dX7_parse_72 hE
set_option maxRecDepth 100000 in
theorem p_X7_parse_83 {X : jX} {D : va_G} {ad : Nat → Nat} {cy : Nat → ClassId} (C : jC X (jMain D ad cy) RX7 cX7_parse (none) 2 7 150) {z : jS} (Q : jRet X (jMain D ad cy) (none, z))   (S : jS) (hE : f_X7_parse_83    S = some z) : jJ X (jMain D ad cy) 83 [] [] S := by
  unfold f_X7_parse_83 at hE
  exact j_vret C Q dX7_parse_83 hE
set_option maxRecDepth 100000 in
theorem p_X7_parse_36 {X : jX} {D : va_G} {ad : Nat → Nat} {cy : Nat → ClassId} (C : jC X (jMain D ad cy) RX7 cX7_parse (none) 2 7 150) {z : jS} (Q : jRet X (jMain D ad cy) (none, z))   (S : jS) (hE : f_X7_parse_36    S = some z) : jJ X (jMain D ad cy) 36 [(0, .ref (ad 18))] [] S := by
  unfold f_X7_parse_36 at hE
  refine j_aload_n C dX7_parse_36 0 rfl ?_
  refine k_X7_32_X7_scan C dX7_parse_37 hE (Nat.le_of_ble_eq_true rfl) (Nat.le_of_ble_eq_true rfl) (Nat.le_of_ble_eq_true rfl) (fun S1 hE => ?_)
  refine j_aload_n C dX7_parse_40 0 rfl ?_
  refine k_X7_35_X7_parseStreet C dX7_parse_41 hE (Nat.le_of_ble_eq_true rfl) (Nat.le_of_ble_eq_true rfl) (Nat.le_of_ble_eq_true rfl) (fun S2 hE => ?_)
  refine j_iconst (v := 0) C dX7_parse_44 jc_ic_0 ?_
  refine j_istore_n (i := 1) (lv' := [(1, .int 0), (0, .ref (ad 18))]) C dX7_parse_45 rfl (by decide) rfl ?_
  refine j_sub [1, 0] rfl ?_
  exact q_X7_parse_46 C Q (p_X7_parse_72 C Q ) (p_X7_parse_83 C Q ) 0 S2 hE
set_option maxRecDepth 100000 in
theorem p_X7_parse_e {X : jX} {D : va_G} {ad : Nat → Nat} {cy : Nat → ClassId} (C : jC X (jMain D ad cy) RX7 cX7_parse (none) 2 7 150) {z : jS} (Q : jRet X (jMain D ad cy) (none, z))   (S : jS) (hE : f_X7_parse_e    S = some z) : jJ X (jMain D ad cy) 0 [(0, .ref (ad 18))] [] S := by
  unfold f_X7_parse_e at hE
  refine j_aload_n C dX7_parse_0 0 rfl ?_
  refine j_iconst (v := (-1)) C dX7_parse_1 jc_ic_m1 ?_
  refine p_X7_15_18 C dX7_parse_2 hE (fun S1 hE => ?_)
  refine j_aload_n C dX7_parse_5 0 rfl ?_
  refine j_iconst (v := 0) C dX7_parse_6 jc_ic_0 ?_
  refine p_X7_26_18 C dX7_parse_7 hE (fun S2 hE => ?_)
  refine j_aload_n C dX7_parse_10 0 rfl ?_
  refine j_iconst (v := 0) C dX7_parse_11 jc_ic_0 ?_
  refine p_X7_29_18 C dX7_parse_12 hE (fun S3 hE => ?_)
  refine j_iconst (v := 0) C dX7_parse_15 jc_ic_0 ?_
  refine j_istore_n (i := 1) (lv' := [(1, .int 0), (0, .ref (ad 18))]) C dX7_parse_16 rfl (by decide) rfl ?_
  refine j_sub [1, 0] rfl ?_
  exact q_X7_parse_17 C Q (p_X7_parse_36 C Q ) 0 S3 hE
theorem c_X7_parse {l : Launch} {D : va_G} {ad : Nat → Nat} {cy : Nat → ClassId} (hO : jOk (jMain D ad cy))  (S : jS) {z : jS} (hz : f_X7_parse  S = some z) : Met l yX7_parse (.code yX7_parse cX7_parse 2 (none) :: jT) { frames := 7, cells := 0, slots := 0, locals := 150 } (va_Pc [.ref (ad 18)] (jInv (jMain D ad cy) S)) (jQ (jMain D ad cy) (none, z)) 0 0 (yA (jMain D ad cy)) :=
  jMet hO (by decide +kernel) rfl (Nat.le_of_ble_eq_true rfl) (fun X _ C Q => p_X7_parse_e C Q  S hz)
theorem k_X11_115_X7_parse {X : jX} {D : va_G} {ad : Nat → Nat} {cy : Nat → ClassId} {cc : ByteArray} {ret : Option FieldType} {nL fr lo pc : Nat} {lv : List (Nat × Value)} {st : List Value} {S : jS} {β : Type} {z : β} (C : jC X (jMain D ad cy) RX11 cc ret nL fr lo)  {E : jS → Option β} (d : decode cc pc = .ok (.invokevirtual 115, 3)) (hE : jcv (f_X7_parse  S) E = some z) (hfr : 8 ≤ fr) (hlo : 171 ≤ lo) (hst : (st.map fun v => v.category).sum ≤ 8) (K : ∀ S1, E S1 = some z → jJ X (jMain D ad cy) (pc + 3) lv st S1) : jJ X (jMain D ad cy) pc lv (.ref (ad 18) :: st) S := by
  obtain ⟨v, h1, h2⟩ := jcv_some hE
  exact j_callV (k := 18) (ci := 7) (T := TX7) (N := 10) (n := 0) (As := []) C (c_X7_parse C.2.2.2.2.2.2.1  S h1) tw_415 tw_416 tw_417 tw_79 tw_418 (by decide +kernel) rfl (by decide : 18 < 56) rfl rfl hfr hlo hst rfl d (K _ h2)
set_option maxRecDepth 100000 in
theorem p_X11_read_e {X : jX} {D : va_G} {ad : Nat → Nat} {cy : Nat → ClassId} (C : jC X (jMain D ad cy) RX11 cX11_read (some .int) 1 8 171) {z : Int32 × jS} (Q : jRet X (jMain D ad cy) (some (.int z.1), z.2))   (S : jS) (hE : f_X11_read_e    S = some z) : jJ X (jMain D ad cy) 0 [(0, .ref (ad 0))] [] S := by
  unfold f_X11_read_e at hE
  refine j_aload_n C dX11_read_0 0 rfl ?_
  refine g_X11_37_0 C dX11_read_1 ?_
  refine k_X11_115_X7_parse C dX11_read_4 hE (Nat.le_of_ble_eq_true rfl) (Nat.le_of_ble_eq_true rfl) (Nat.le_of_ble_eq_true rfl) (fun S1 hE => ?_)
  refine j_aload_n C dX11_read_7 0 rfl ?_
  refine g_X11_37_0 C dX11_read_8 ?_
  refine g_X11_118_18 C dX11_read_11 ?_
  refine j_iconst (v := (-1)) C dX11_read_14 jc_ic_m1 ?_
  refine j_icmp_eq (tgt := 29) C dX11_read_15 rfl hE (fun hE => ?_) (fun hE => ?_)
  · refine j_aload_n C dX11_read_29 0 rfl ?_
    refine g_X11_44_0 C dX11_read_30 ?_
    refine j_aload_n C dX11_read_33 0 rfl ?_
    refine g_X11_37_0 C dX11_read_34 ?_
    refine g_X11_121_18 C dX11_read_37 ?_
    refine k_X11_81_X10_begin C dX11_read_40 hE (Nat.le_of_ble_eq_true rfl) (Nat.le_of_ble_eq_true rfl) (Nat.le_of_ble_eq_true rfl) (fun S2 hE => ?_)
    refine j_aload_n C dX11_read_43 0 rfl ?_
    refine g_X11_37_0 C dX11_read_44 ?_
    refine g_X11_122_18 C dX11_read_47 ?_
    refine j_iconst (v := 0) C dX11_read_50 jc_ic_0 ?_
    refine j_aload_n C dX11_read_51 0 rfl ?_
    refine g_X11_44_0 C dX11_read_52 ?_
    refine g_X11_96_21 C dX11_read_55 ?_
    refine j_iconst (v := 0) C dX11_read_58 jc_ic_0 ?_
    refine j_bipush (v := 8) C dX11_read_59 jc_bp_8 ?_
    refine y_X11_123_19_22 C dX11_read_61 (Nat.le_of_ble_eq_true rfl) (by decide) hE (fun S3 hE => ?_)
    refine j_aload_n C dX11_read_64 0 rfl ?_
    refine g_X11_37_0 C dX11_read_65 ?_
    refine g_X11_129_18 C dX11_read_68 ?_
    exact j_iret C Q dX11_read_71 hE
  · refine j_bipush (v := (-10)) C dX11_read_18 jc_bp_m10 ?_
    refine j_aload_n C dX11_read_20 0 rfl ?_
    refine g_X11_37_0 C dX11_read_21 ?_
    refine g_X11_118_18 C dX11_read_24 ?_
    refine j_isub C dX11_read_27 ?_
    exact j_iret C Q dX11_read_28 hE
theorem c_X11_read {l : Launch} {D : va_G} {ad : Nat → Nat} {cy : Nat → ClassId} (hO : jOk (jMain D ad cy))  (S : jS) {z : Int32 × jS} (hz : f_X11_read  S = some z) : Met l yX11_read (.code yX11_read cX11_read 1 (some .int) :: jT) { frames := 8, cells := 0, slots := 0, locals := 171 } (va_Pc [.ref (ad 0)] (jInv (jMain D ad cy) S)) (jQ (jMain D ad cy) (some (.int z.1), z.2)) 0 0 (yA (jMain D ad cy)) :=
  jMet hO (by decide +kernel) rfl (Nat.le_of_ble_eq_true rfl) (fun X _ C Q => p_X11_read_e C Q  S hz)
set_option maxRecDepth 100000 in
theorem p_X12_layHand_2 {X : jX} {D : va_G} {ad : Nat → Nat} {cy : Nat → ClassId} (C : jC X (jMain D ad cy) RX12 cX12_layHand (none) 2 0 0) {z : jS} (Q : jRet X (jMain D ad cy) (none, z)) {g : Int32 → jS → Option (jS)} (hg : ∀ (x1 : Int32) (S : jS), g x1 S = some z → jJ X (jMain D ad cy) 2 [(0, .ref (ad 41)), (1, .int x1)] [] S) {k26 : jS → Option (jS)} (hk26 : ∀  (S : jS), k26  S = some z → jJ X (jMain D ad cy) 26 [] [] S) (x1 : Int32) (S : jS) (hE : f_X12_layHand_2  g k26 x1 S = some z) : jJ X (jMain D ad cy) 2 [(0, .ref (ad 41)), (1, .int x1)] [] S := by
  unfold f_X12_layHand_2 at hE
  refine j_iload_n C dX12_layHand_2 1 rfl ?_
  refine j_bipush (v := 8) C dX12_layHand_3 jc_bp_8 ?_
  refine j_icmp_ge (tgt := 26) C dX12_layHand_5 rfl hE (fun hE => ?_) (fun hE => ?_)
  · refine j_sub [] rfl ?_
    exact hk26  S hE
  · refine j_aload_n C dX12_layHand_8 0 rfl ?_
    refine g_X12_30_41 C dX12_layHand_9 ?_
    refine j_iload_n C dX12_layHand_12 1 rfl ?_
    refine j_aload_n C dX12_layHand_13 0 rfl ?_
    refine g_X12_7_41 C dX12_layHand_14 ?_
    refine j_iload_n C dX12_layHand_17 1 rfl ?_
    refine l_42 C dX12_layHand_18 hE (fun v1 hE => ?_)
    refine s_47 C dX12_layHand_19 hE (fun S2 hE => ?_)
    refine j_iinc (v := (x1 + 1)) (lv' := [(1, .int (x1 + 1)), (0, .ref (ad 41))]) C dX12_layHand_20 1 rfl (congrArg (fun w => x1 + w) jc_ic_1) (by decide) rfl ?_
    refine j_goto (tgt := 2) C dX12_layHand_23 rfl ?_
    refine j_sub [1, 0] rfl ?_
    exact hg (x1 + 1) S2 hE
theorem q_X12_layHand_2 {X : jX} {D : va_G} {ad : Nat → Nat} {cy : Nat → ClassId} (C : jC X (jMain D ad cy) RX12 cX12_layHand (none) 2 0 0) {z : jS} (Q : jRet X (jMain D ad cy) (none, z)) {k26 : jS → Option (jS)} (hk26 : ∀  (S : jS), k26  S = some z → jJ X (jMain D ad cy) 26 [] [] S) (x1 : Int32) (S : jS) (hE : lp_X12_layHand_2  k26 x1 S = some z) : jJ X (jMain D ad cy) 2 [(0, .ref (ad 41)), (1, .int x1)] [] S :=
  jloop_P (α := Int32 × jS) (B := (fun g q => f_X12_layHand_2  (fun x1 S => g (x1, S)) k26 q.1 q.2)) (P := fun q => jJ X (jMain D ad cy) 2 [(0, .ref (ad 41)), (1, .int q.1)] [] q.2) (fun g q hg h => p_X12_layHand_2 C Q (g := fun x1 S => g (x1, S)) (fun x1 S h => hg (x1, S) h) hk26 q.1 q.2 h) jN (x1, S) hE
set_option maxRecDepth 100000 in
theorem p_X12_layHand_26 {X : jX} {D : va_G} {ad : Nat → Nat} {cy : Nat → ClassId} (C : jC X (jMain D ad cy) RX12 cX12_layHand (none) 2 0 0) {z : jS} (Q : jRet X (jMain D ad cy) (none, z))   (S : jS) (hE : f_X12_layHand_26    S = some z) : jJ X (jMain D ad cy) 26 [] [] S := by
  unfold f_X12_layHand_26 at hE
  exact j_vret C Q dX12_layHand_26 hE
set_option maxRecDepth 100000 in
theorem p_X12_layHand_e {X : jX} {D : va_G} {ad : Nat → Nat} {cy : Nat → ClassId} (C : jC X (jMain D ad cy) RX12 cX12_layHand (none) 2 0 0) {z : jS} (Q : jRet X (jMain D ad cy) (none, z))   (S : jS) (hE : f_X12_layHand_e    S = some z) : jJ X (jMain D ad cy) 0 [(0, .ref (ad 41))] [] S := by
  unfold f_X12_layHand_e at hE
  refine j_iconst (v := 0) C dX12_layHand_0 jc_ic_0 ?_
  refine j_istore_n (i := 1) (lv' := [(1, .int 0), (0, .ref (ad 41))]) C dX12_layHand_1 rfl (by decide) rfl ?_
  refine j_sub [1, 0] rfl ?_
  exact q_X12_layHand_2 C Q (p_X12_layHand_26 C Q ) 0 S hE
theorem c_X12_layHand {l : Launch} {D : va_G} {ad : Nat → Nat} {cy : Nat → ClassId} (hO : jOk (jMain D ad cy))  (S : jS) {z : jS} (hz : f_X12_layHand  S = some z) : Met l yX12_layHand (.code yX12_layHand cX12_layHand 2 (none) :: jT) { frames := 0, cells := 0, slots := 0, locals := 0 } (va_Pc [.ref (ad 41)] (jInv (jMain D ad cy) S)) (jQ (jMain D ad cy) (none, z)) 0 0 (yA (jMain D ad cy)) :=
  jMet hO (by decide +kernel) rfl (Nat.le_of_ble_eq_true rfl) (fun X _ C Q => p_X12_layHand_e C Q  S hz)
theorem k_X12_125_X12_layHand {X : jX} {D : va_G} {ad : Nat → Nat} {cy : Nat → ClassId} {cc : ByteArray} {ret : Option FieldType} {nL fr lo pc : Nat} {lv : List (Nat × Value)} {st : List Value} {S : jS} {β : Type} {z : β} (C : jC X (jMain D ad cy) RX12 cc ret nL fr lo)  {E : jS → Option β} (d : decode cc pc = .ok (.invokevirtual 125, 3)) (hE : jcv (f_X12_layHand  S) E = some z) (hfr : 1 ≤ fr) (hlo : 21 ≤ lo) (hst : (st.map fun v => v.category).sum ≤ 8) (K : ∀ S1, E S1 = some z → jJ X (jMain D ad cy) (pc + 3) lv st S1) : jJ X (jMain D ad cy) pc lv (.ref (ad 41) :: st) S := by
  obtain ⟨v, h1, h2⟩ := jcv_some hE
  exact j_callV (k := 41) (ci := 12) (T := TX12) (N := 25) (n := 0) (As := []) C (c_X12_layHand C.2.2.2.2.2.2.1  S h1) tw_1017 tw_1019 tw_37 tw_81 tw_1020 (by decide +kernel) rfl (by decide : 41 < 56) rfl rfl hfr hlo hst rfl d (K _ h2)
set_option maxRecDepth 100000 in
theorem p_X12_isPrime_15 {X : jX} {D : va_G} {ad : Nat → Nat} {cy : Nat → ClassId} (C : jC X (jMain D ad cy) RX12 cX12_isPrime (some .boolean) 2 0 0) {z : Int32 × jS} (Q : jRet X (jMain D ad cy) (some (.int z.1), z.2))  (a0 : Int32) (S : jS) (hE : f_X12_isPrime_15   a0 S = some z) : jJ X (jMain D ad cy) 15 [] [.int a0] S := by
  unfold f_X12_isPrime_15 at hE
  exact j_zret C Q dX12_isPrime_15 hE
set_option maxRecDepth 100000 in
theorem p_X12_isPrime_e {X : jX} {D : va_G} {ad : Nat → Nat} {cy : Nat → ClassId} (C : jC X (jMain D ad cy) RX12 cX12_isPrime (some .boolean) 2 0 0) {z : Int32 × jS} (Q : jRet X (jMain D ad cy) (some (.int z.1), z.2))  (x1 : Int32) (S : jS) (hE : f_X12_isPrime_e   x1 S = some z) : jJ X (jMain D ad cy) 0 [(0, .ref (ad 41)), (1, .int x1)] [] S := by
  unfold f_X12_isPrime_e at hE
  refine j_aload_n C dX12_isPrime_0 0 rfl ?_
  refine g_X12_23_41 C dX12_isPrime_1 ?_
  refine j_iload_n C dX12_isPrime_4 1 rfl ?_
  refine l_46 C dX12_isPrime_5 hE (fun v1 hE => ?_)
  refine j_iconst (v := 1) C dX12_isPrime_6 jc_ic_1 ?_
  refine j_icmp_ne (tgt := 14) C dX12_isPrime_7 rfl hE (fun hE => ?_) (fun hE => ?_)
  · refine j_iconst (v := 0) C dX12_isPrime_14 jc_ic_0 ?_
    refine j_sub [] rfl ?_
    exact p_X12_isPrime_15 C Q  0 S hE
  · refine j_iconst (v := 1) C dX12_isPrime_10 jc_ic_1 ?_
    refine j_goto (tgt := 15) C dX12_isPrime_11 rfl ?_
    refine j_sub [] rfl ?_
    exact p_X12_isPrime_15 C Q  1 S hE
theorem c_X12_isPrime {l : Launch} {D : va_G} {ad : Nat → Nat} {cy : Nat → ClassId} (hO : jOk (jMain D ad cy)) (x1 : Int32) (S : jS) {z : Int32 × jS} (hz : f_X12_isPrime x1 S = some z) : Met l yX12_isPrime (.code yX12_isPrime cX12_isPrime 2 (some .boolean) :: jT) { frames := 0, cells := 0, slots := 0, locals := 0 } (va_Pc [.ref (ad 41), .int x1] (jInv (jMain D ad cy) S)) (jQ (jMain D ad cy) (some (.int z.1), z.2)) 0 0 (yA (jMain D ad cy)) :=
  jMet hO (by decide +kernel) rfl (Nat.le_of_ble_eq_true rfl) (fun X _ C Q => p_X12_isPrime_e C Q x1 S hz)
theorem k_X12_73_X12_isPrime {X : jX} {D : va_G} {ad : Nat → Nat} {cy : Nat → ClassId} {cc : ByteArray} {ret : Option FieldType} {nL fr lo pc : Nat} {lv : List (Nat × Value)} {st : List Value} {S : jS} {β : Type} {z : β} (C : jC X (jMain D ad cy) RX12 cc ret nL fr lo) {a0 : Int32} {E : Int32 → jS → Option β} (d : decode cc pc = .ok (.invokevirtual 73, 3)) (hE : jcl (f_X12_isPrime a0 S) E = some z) (hfr : 1 ≤ fr) (hlo : 21 ≤ lo) (hst : (st.map fun v => v.category).sum ≤ 8) (K : ∀ (v : Int32) (S1 : jS), E v S1 = some z → jJ X (jMain D ad cy) (pc + 3) lv (.int v :: st) S1) : jJ X (jMain D ad cy) pc lv (.int a0 :: .ref (ad 41) :: st) S := by
  obtain ⟨v, h1, h2⟩ := jcl_some hE
  exact j_callV (k := 41) (ci := 12) (T := TX12) (N := 25) (n := 1) (As := [.int a0]) C (c_X12_isPrime C.2.2.2.2.2.2.1 a0 S h1) tw_1021 tw_1023 tw_38 tw_81 tw_1024 (by decide +kernel) rfl (by decide : 41 < 56) rfl rfl hfr hlo hst rfl d (K _ _ h2)
set_option maxRecDepth 100000 in
theorem p_X12_isSquare_2 {X : jX} {D : va_G} {ad : Nat → Nat} {cy : Nat → ClassId} (C : jC X (jMain D ad cy) RX12 cX12_isSquare (some .boolean) 2 0 0) {z : Int32 × jS} (Q : jRet X (jMain D ad cy) (some (.int z.1), z.2)) {g : Int32 → Int32 → jS → Option (Int32 × jS)} (hg : ∀ (x0 : Int32) (x1 : Int32) (S : jS), g x0 x1 S = some z → jJ X (jMain D ad cy) 2 [(0, .int x0), (1, .int x1)] [] S) {k15 : Int32 → Int32 → jS → Option (Int32 × jS)} (hk15 : ∀ (x0 : Int32) (x1 : Int32) (S : jS), k15 x0 x1 S = some z → jJ X (jMain D ad cy) 15 [(0, .int x0), (1, .int x1)] [] S) (x0 : Int32) (x1 : Int32) (S : jS) (hE : f_X12_isSquare_2  g k15 x0 x1 S = some z) : jJ X (jMain D ad cy) 2 [(0, .int x0), (1, .int x1)] [] S := by
  unfold f_X12_isSquare_2 at hE
  refine j_iload_n C dX12_isSquare_2 1 rfl ?_
  refine j_iload_n C dX12_isSquare_3 1 rfl ?_
  refine j_imul C dX12_isSquare_4 ?_
  refine j_iload_n C dX12_isSquare_5 0 rfl ?_
  refine j_icmp_ge (tgt := 15) C dX12_isSquare_6 rfl hE (fun hE => ?_) (fun hE => ?_)
  · exact hk15 x0 x1 S hE
  · refine j_iinc (v := (x1 + 1)) (lv' := [(1, .int (x1 + 1)), (0, .int x0)]) C dX12_isSquare_9 1 rfl (congrArg (fun w => x1 + w) jc_ic_1) (by decide) rfl ?_
    refine j_goto (tgt := 2) C dX12_isSquare_12 rfl ?_
    refine j_sub [1, 0] rfl ?_
    exact hg x0 (x1 + 1) S hE
theorem q_X12_isSquare_2 {X : jX} {D : va_G} {ad : Nat → Nat} {cy : Nat → ClassId} (C : jC X (jMain D ad cy) RX12 cX12_isSquare (some .boolean) 2 0 0) {z : Int32 × jS} (Q : jRet X (jMain D ad cy) (some (.int z.1), z.2)) {k15 : Int32 → Int32 → jS → Option (Int32 × jS)} (hk15 : ∀ (x0 : Int32) (x1 : Int32) (S : jS), k15 x0 x1 S = some z → jJ X (jMain D ad cy) 15 [(0, .int x0), (1, .int x1)] [] S) (x0 : Int32) (x1 : Int32) (S : jS) (hE : lp_X12_isSquare_2  k15 x0 x1 S = some z) : jJ X (jMain D ad cy) 2 [(0, .int x0), (1, .int x1)] [] S :=
  jloop_P (α := Int32 × Int32 × jS) (B := (fun g q => f_X12_isSquare_2  (fun x0 x1 S => g (x0, x1, S)) k15 q.1 q.2.1 q.2.2)) (P := fun q => jJ X (jMain D ad cy) 2 [(0, .int q.1), (1, .int q.2.1)] [] q.2.2) (fun g q hg h => p_X12_isSquare_2 C Q (g := fun x0 x1 S => g (x0, x1, S)) (fun x0 x1 S h => hg (x0, x1, S) h) hk15 q.1 q.2.1 q.2.2 h) jN (x0, x1, S) hE
set_option maxRecDepth 100000 in
theorem p_X12_isSquare_27 {X : jX} {D : va_G} {ad : Nat → Nat} {cy : Nat → ClassId} (C : jC X (jMain D ad cy) RX12 cX12_isSquare (some .boolean) 2 0 0) {z : Int32 × jS} (Q : jRet X (jMain D ad cy) (some (.int z.1), z.2))  (a0 : Int32) (S : jS) (hE : f_X12_isSquare_27   a0 S = some z) : jJ X (jMain D ad cy) 27 [] [.int a0] S := by
  unfold f_X12_isSquare_27 at hE
  exact j_zret C Q dX12_isSquare_27 hE
set_option maxRecDepth 100000 in
theorem p_X12_isSquare_15 {X : jX} {D : va_G} {ad : Nat → Nat} {cy : Nat → ClassId} (C : jC X (jMain D ad cy) RX12 cX12_isSquare (some .boolean) 2 0 0) {z : Int32 × jS} (Q : jRet X (jMain D ad cy) (some (.int z.1), z.2))  (x0 : Int32) (x1 : Int32) (S : jS) (hE : f_X12_isSquare_15   x0 x1 S = some z) : jJ X (jMain D ad cy) 15 [(0, .int x0), (1, .int x1)] [] S := by
  unfold f_X12_isSquare_15 at hE
  refine j_iload_n C dX12_isSquare_15 1 rfl ?_
  refine j_iload_n C dX12_isSquare_16 1 rfl ?_
  refine j_imul C dX12_isSquare_17 ?_
  refine j_iload_n C dX12_isSquare_18 0 rfl ?_
  refine j_icmp_ne (tgt := 26) C dX12_isSquare_19 rfl hE (fun hE => ?_) (fun hE => ?_)
  · refine j_iconst (v := 0) C dX12_isSquare_26 jc_ic_0 ?_
    refine j_sub [] rfl ?_
    exact p_X12_isSquare_27 C Q  0 S hE
  · refine j_iconst (v := 1) C dX12_isSquare_22 jc_ic_1 ?_
    refine j_goto (tgt := 27) C dX12_isSquare_23 rfl ?_
    refine j_sub [] rfl ?_
    exact p_X12_isSquare_27 C Q  1 S hE
set_option maxRecDepth 100000 in
theorem p_X12_isSquare_e {X : jX} {D : va_G} {ad : Nat → Nat} {cy : Nat → ClassId} (C : jC X (jMain D ad cy) RX12 cX12_isSquare (some .boolean) 2 0 0) {z : Int32 × jS} (Q : jRet X (jMain D ad cy) (some (.int z.1), z.2))  (x0 : Int32) (S : jS) (hE : f_X12_isSquare_e   x0 S = some z) : jJ X (jMain D ad cy) 0 [(0, .int x0)] [] S := by
  unfold f_X12_isSquare_e at hE
  refine j_iconst (v := 1) C dX12_isSquare_0 jc_ic_1 ?_
  refine j_istore_n (i := 1) (lv' := [(1, .int 1), (0, .int x0)]) C dX12_isSquare_1 rfl (by decide) rfl ?_
  refine j_sub [1, 0] rfl ?_
  exact q_X12_isSquare_2 C Q (p_X12_isSquare_15 C Q ) x0 1 S hE
theorem c_X12_isSquare {l : Launch} {D : va_G} {ad : Nat → Nat} {cy : Nat → ClassId} (hO : jOk (jMain D ad cy)) (x0 : Int32) (S : jS) {z : Int32 × jS} (hz : f_X12_isSquare x0 S = some z) : Met l yX12_isSquare (.code yX12_isSquare cX12_isSquare 2 (some .boolean) :: jT) { frames := 0, cells := 0, slots := 0, locals := 0 } (va_Pc [.int x0] (jInv (jMain D ad cy) S)) (jQ (jMain D ad cy) (some (.int z.1), z.2)) 0 0 (yA (jMain D ad cy)) :=
  jMet hO (by decide +kernel) rfl (Nat.le_of_ble_eq_true rfl) (fun X _ C Q => p_X12_isSquare_e C Q x0 S hz)
theorem k_X12_77_X12_isSquare {X : jX} {D : va_G} {ad : Nat → Nat} {cy : Nat → ClassId} {cc : ByteArray} {ret : Option FieldType} {nL fr lo pc : Nat} {lv : List (Nat × Value)} {st : List Value} {S : jS} {β : Type} {z : β} (C : jC X (jMain D ad cy) RX12 cc ret nL fr lo) {a0 : Int32} {E : Int32 → jS → Option β} (d : decode cc pc = .ok (.invokestatic 77, 3)) (hE : jcl (f_X12_isSquare a0 S) E = some z) (hfr : 1 ≤ fr) (hlo : 21 ≤ lo) (hst : (st.map fun v => v.category).sum ≤ 8) (K : ∀ (v : Int32) (S1 : jS), E v S1 = some z → jJ X (jMain D ad cy) (pc + 3) lv (.int v :: st) S1) : jJ X (jMain D ad cy) pc lv (.int a0 :: st) S := by
  obtain ⟨v, h1, h2⟩ := jcl_some hE
  exact j_callS (n := 1) (As := [.int a0]) C (c_X12_isSquare C.2.2.2.2.2.2.1 a0 S h1) tw_1025 tw_1026 tw_81 tw_1027 (by decide +kernel) rfl hfr hlo hst rfl d (K _ _ h2)
set_option maxRecDepth 100000 in
theorem p_X12_isPair_35 {X : jX} {D : va_G} {ad : Nat → Nat} {cy : Nat → ClassId} (C : jC X (jMain D ad cy) RX12 cX12_isPair (some .boolean) 2 0 0) {z : Int32 × jS} (Q : jRet X (jMain D ad cy) (some (.int z.1), z.2))  (a0 : Int32) (S : jS) (hE : f_X12_isPair_35   a0 S = some z) : jJ X (jMain D ad cy) 35 [] [.int a0] S := by
  unfold f_X12_isPair_35 at hE
  exact j_zret C Q dX12_isPair_35 hE
set_option maxRecDepth 100000 in
theorem p_X12_isPair_34 {X : jX} {D : va_G} {ad : Nat → Nat} {cy : Nat → ClassId} (C : jC X (jMain D ad cy) RX12 cX12_isPair (some .boolean) 2 0 0) {z : Int32 × jS} (Q : jRet X (jMain D ad cy) (some (.int z.1), z.2))   (S : jS) (hE : f_X12_isPair_34    S = some z) : jJ X (jMain D ad cy) 34 [] [] S := by
  unfold f_X12_isPair_34 at hE
  refine j_iconst (v := 0) C dX12_isPair_34 jc_ic_0 ?_
  exact p_X12_isPair_35 C Q  0 S hE
set_option maxRecDepth 100000 in
theorem p_X12_isPair_e {X : jX} {D : va_G} {ad : Nat → Nat} {cy : Nat → ClassId} (C : jC X (jMain D ad cy) RX12 cX12_isPair (some .boolean) 2 0 0) {z : Int32 × jS} (Q : jRet X (jMain D ad cy) (some (.int z.1), z.2))  (x1 : Int32) (S : jS) (hE : f_X12_isPair_e   x1 S = some z) : jJ X (jMain D ad cy) 0 [(0, .ref (ad 41)), (1, .int x1)] [] S := by
  unfold f_X12_isPair_e at hE
  refine j_iload_n C dX12_isPair_0 1 rfl ?_
  refine j_if_lt (tgt := 34) C dX12_isPair_1 rfl hE (fun hE => ?_) (fun hE => ?_)
  · refine j_sub [] rfl ?_
    exact p_X12_isPair_34 C Q   S hE
  · refine j_iload_n C dX12_isPair_4 1 rfl ?_
    refine j_bipush (v := 7) C dX12_isPair_5 jc_bp_7 ?_
    refine j_icmp_ge (tgt := 34) C dX12_isPair_7 rfl hE (fun hE => ?_) (fun hE => ?_)
    · refine j_sub [] rfl ?_
      exact p_X12_isPair_34 C Q   S hE
    · refine j_aload_n C dX12_isPair_10 0 rfl ?_
      refine g_X12_30_41 C dX12_isPair_11 ?_
      refine j_iload_n C dX12_isPair_14 1 rfl ?_
      refine l_47 C dX12_isPair_15 hE (fun v1 hE => ?_)
      refine j_if_le (tgt := 34) C dX12_isPair_16 rfl hE (fun hE => ?_) (fun hE => ?_)
      · refine j_sub [] rfl ?_
        exact p_X12_isPair_34 C Q   S hE
      · refine j_aload_n C dX12_isPair_19 0 rfl ?_
        refine g_X12_30_41 C dX12_isPair_20 ?_
        refine j_iload_n C dX12_isPair_23 1 rfl ?_
        refine j_iconst (v := 1) C dX12_isPair_24 jc_ic_1 ?_
        refine j_iadd C dX12_isPair_25 ?_
        refine l_47 C dX12_isPair_26 hE (fun v2 hE => ?_)
        refine j_if_le (tgt := 34) C dX12_isPair_27 rfl hE (fun hE => ?_) (fun hE => ?_)
        · refine j_sub [] rfl ?_
          exact p_X12_isPair_34 C Q   S hE
        · refine j_iconst (v := 1) C dX12_isPair_30 jc_ic_1 ?_
          refine j_goto (tgt := 35) C dX12_isPair_31 rfl ?_
          refine j_sub [] rfl ?_
          exact p_X12_isPair_35 C Q  1 S hE
theorem c_X12_isPair {l : Launch} {D : va_G} {ad : Nat → Nat} {cy : Nat → ClassId} (hO : jOk (jMain D ad cy)) (x1 : Int32) (S : jS) {z : Int32 × jS} (hz : f_X12_isPair x1 S = some z) : Met l yX12_isPair (.code yX12_isPair cX12_isPair 2 (some .boolean) :: jT) { frames := 0, cells := 0, slots := 0, locals := 0 } (va_Pc [.ref (ad 41), .int x1] (jInv (jMain D ad cy) S)) (jQ (jMain D ad cy) (some (.int z.1), z.2)) 0 0 (yA (jMain D ad cy)) :=
  jMet hO (by decide +kernel) rfl (Nat.le_of_ble_eq_true rfl) (fun X _ C Q => p_X12_isPair_e C Q x1 S hz)
theorem k_X12_114_X12_isPair {X : jX} {D : va_G} {ad : Nat → Nat} {cy : Nat → ClassId} {cc : ByteArray} {ret : Option FieldType} {nL fr lo pc : Nat} {lv : List (Nat × Value)} {st : List Value} {S : jS} {β : Type} {z : β} (C : jC X (jMain D ad cy) RX12 cc ret nL fr lo) {a0 : Int32} {E : Int32 → jS → Option β} (d : decode cc pc = .ok (.invokevirtual 114, 3)) (hE : jcl (f_X12_isPair a0 S) E = some z) (hfr : 1 ≤ fr) (hlo : 21 ≤ lo) (hst : (st.map fun v => v.category).sum ≤ 8) (K : ∀ (v : Int32) (S1 : jS), E v S1 = some z → jJ X (jMain D ad cy) (pc + 3) lv (.int v :: st) S1) : jJ X (jMain D ad cy) pc lv (.int a0 :: .ref (ad 41) :: st) S := by
  obtain ⟨v, h1, h2⟩ := jcl_some hE
  exact j_callV (k := 41) (ci := 12) (T := TX12) (N := 25) (n := 1) (As := [.int a0]) C (c_X12_isPair C.2.2.2.2.2.2.1 a0 S h1) tw_1036 tw_1038 tw_41 tw_81 tw_1039 (by decide +kernel) rfl (by decide : 41 < 56) rfl rfl hfr hlo hst rfl d (K _ _ h2)
set_option maxRecDepth 100000 in
theorem p_X12_divides_11 {X : jX} {D : va_G} {ad : Nat → Nat} {cy : Nat → ClassId} (C : jC X (jMain D ad cy) RX12 cX12_divides (some .boolean) 2 0 0) {z : Int32 × jS} (Q : jRet X (jMain D ad cy) (some (.int z.1), z.2))  (a0 : Int32) (S : jS) (hE : f_X12_divides_11   a0 S = some z) : jJ X (jMain D ad cy) 11 [] [.int a0] S := by
  unfold f_X12_divides_11 at hE
  exact j_zret C Q dX12_divides_11 hE
set_option maxRecDepth 100000 in
theorem p_X12_divides_e {X : jX} {D : va_G} {ad : Nat → Nat} {cy : Nat → ClassId} (C : jC X (jMain D ad cy) RX12 cX12_divides (some .boolean) 2 0 0) {z : Int32 × jS} (Q : jRet X (jMain D ad cy) (some (.int z.1), z.2))  (x0 : Int32) (x1 : Int32) (S : jS) (hE : f_X12_divides_e   x0 x1 S = some z) : jJ X (jMain D ad cy) 0 [(0, .int x0), (1, .int x1)] [] S := by
  unfold f_X12_divides_e at hE
  refine j_iload_n C dX12_divides_0 1 rfl ?_
  refine j_iload_n C dX12_divides_1 0 rfl ?_
  refine j_irem C dX12_divides_2 hE (fun v1 hE => ?_)
  refine j_if_ne (tgt := 10) C dX12_divides_3 rfl hE (fun hE => ?_) (fun hE => ?_)
  · refine j_iconst (v := 0) C dX12_divides_10 jc_ic_0 ?_
    refine j_sub [] rfl ?_
    exact p_X12_divides_11 C Q  0 S hE
  · refine j_iconst (v := 1) C dX12_divides_6 jc_ic_1 ?_
    refine j_goto (tgt := 11) C dX12_divides_7 rfl ?_
    refine j_sub [] rfl ?_
    exact p_X12_divides_11 C Q  1 S hE
theorem c_X12_divides {l : Launch} {D : va_G} {ad : Nat → Nat} {cy : Nat → ClassId} (hO : jOk (jMain D ad cy)) (x0 : Int32) (x1 : Int32) (S : jS) {z : Int32 × jS} (hz : f_X12_divides x0 x1 S = some z) : Met l yX12_divides (.code yX12_divides cX12_divides 2 (some .boolean) :: jT) { frames := 0, cells := 0, slots := 0, locals := 0 } (va_Pc [.int x0, .int x1] (jInv (jMain D ad cy) S)) (jQ (jMain D ad cy) (some (.int z.1), z.2)) 0 0 (yA (jMain D ad cy)) :=
  jMet hO (by decide +kernel) rfl (Nat.le_of_ble_eq_true rfl) (fun X _ C Q => p_X12_divides_e C Q x0 x1 S hz)
theorem k_X12_69_X12_divides {X : jX} {D : va_G} {ad : Nat → Nat} {cy : Nat → ClassId} {cc : ByteArray} {ret : Option FieldType} {nL fr lo pc : Nat} {lv : List (Nat × Value)} {st : List Value} {S : jS} {β : Type} {z : β} (C : jC X (jMain D ad cy) RX12 cc ret nL fr lo) {a0 : Int32} {a1 : Int32} {E : Int32 → jS → Option β} (d : decode cc pc = .ok (.invokestatic 69, 3)) (hE : jcl (f_X12_divides a0 a1 S) E = some z) (hfr : 1 ≤ fr) (hlo : 21 ≤ lo) (hst : (st.map fun v => v.category).sum ≤ 8) (K : ∀ (v : Int32) (S1 : jS), E v S1 = some z → jJ X (jMain D ad cy) (pc + 3) lv (.int v :: st) S1) : jJ X (jMain D ad cy) pc lv (.int a1 :: .int a0 :: st) S := by
  obtain ⟨v, h1, h2⟩ := jcl_some hE
  exact j_callS (n := 2) (As := [.int a0, .int a1]) C (c_X12_divides C.2.2.2.2.2.2.1 a0 a1 S h1) tw_1048 tw_1049 tw_81 tw_1050 (by decide +kernel) rfl hfr hlo hst rfl d (K _ _ h2)
set_option maxRecDepth 100000 in
theorem p_X12_mayBy_147 {X : jX} {D : va_G} {ad : Nat → Nat} {cy : Nat → ClassId} (C : jC X (jMain D ad cy) RX12 cX12_mayBy (some .boolean) 8 1 21) {z : Int32 × jS} (Q : jRet X (jMain D ad cy) (some (.int z.1), z.2))  (a0 : Int32) (S : jS) (hE : f_X12_mayBy_147   a0 S = some z) : jJ X (jMain D ad cy) 147 [] [.int a0] S := by
  unfold f_X12_mayBy_147 at hE
  exact j_zret C Q dX12_mayBy_147 hE
set_option maxRecDepth 100000 in
theorem p_X12_mayBy_142 {X : jX} {D : va_G} {ad : Nat → Nat} {cy : Nat → ClassId} (C : jC X (jMain D ad cy) RX12 cX12_mayBy (some .boolean) 8 1 21) {z : Int32 × jS} (Q : jRet X (jMain D ad cy) (some (.int z.1), z.2))   (S : jS) (hE : f_X12_mayBy_142    S = some z) : jJ X (jMain D ad cy) 142 [] [] S := by
  unfold f_X12_mayBy_142 at hE
  refine j_iconst (v := 1) C dX12_mayBy_142 jc_ic_1 ?_
  refine j_goto (tgt := 147) C dX12_mayBy_143 rfl ?_
  exact p_X12_mayBy_147 C Q  1 S hE
set_option maxRecDepth 100000 in
theorem p_X12_mayBy_146 {X : jX} {D : va_G} {ad : Nat → Nat} {cy : Nat → ClassId} (C : jC X (jMain D ad cy) RX12 cX12_mayBy (some .boolean) 8 1 21) {z : Int32 × jS} (Q : jRet X (jMain D ad cy) (some (.int z.1), z.2))   (S : jS) (hE : f_X12_mayBy_146    S = some z) : jJ X (jMain D ad cy) 146 [] [] S := by
  unfold f_X12_mayBy_146 at hE
  refine j_iconst (v := 0) C dX12_mayBy_146 jc_ic_0 ?_
  exact p_X12_mayBy_147 C Q  0 S hE
set_option maxRecDepth 100000 in
theorem p_X12_mayBy_174 {X : jX} {D : va_G} {ad : Nat → Nat} {cy : Nat → ClassId} (C : jC X (jMain D ad cy) RX12 cX12_mayBy (some .boolean) 8 1 21) {z : Int32 × jS} (Q : jRet X (jMain D ad cy) (some (.int z.1), z.2))  (a0 : Int32) (S : jS) (hE : f_X12_mayBy_174   a0 S = some z) : jJ X (jMain D ad cy) 174 [] [.int a0] S := by
  unfold f_X12_mayBy_174 at hE
  exact j_zret C Q dX12_mayBy_174 hE
set_option maxRecDepth 100000 in
theorem p_X12_mayBy_173 {X : jX} {D : va_G} {ad : Nat → Nat} {cy : Nat → ClassId} (C : jC X (jMain D ad cy) RX12 cX12_mayBy (some .boolean) 8 1 21) {z : Int32 × jS} (Q : jRet X (jMain D ad cy) (some (.int z.1), z.2))   (S : jS) (hE : f_X12_mayBy_173    S = some z) : jJ X (jMain D ad cy) 173 [] [] S := by
  unfold f_X12_mayBy_173 at hE
  refine j_iconst (v := 0) C dX12_mayBy_173 jc_ic_0 ?_
  exact p_X12_mayBy_174 C Q  0 S hE
set_option maxRecDepth 100000 in
theorem p_X12_mayBy_169 {X : jX} {D : va_G} {ad : Nat → Nat} {cy : Nat → ClassId} (C : jC X (jMain D ad cy) RX12 cX12_mayBy (some .boolean) 8 1 21) {z : Int32 × jS} (Q : jRet X (jMain D ad cy) (some (.int z.1), z.2))   (S : jS) (hE : f_X12_mayBy_169    S = some z) : jJ X (jMain D ad cy) 169 [] [] S := by
  unfold f_X12_mayBy_169 at hE
  refine j_iconst (v := 1) C dX12_mayBy_169 jc_ic_1 ?_
  refine j_goto (tgt := 174) C dX12_mayBy_170 rfl ?_
  exact p_X12_mayBy_174 C Q  1 S hE
set_option maxRecDepth 100000 in
theorem p_X12_mayBy_207 {X : jX} {D : va_G} {ad : Nat → Nat} {cy : Nat → ClassId} (C : jC X (jMain D ad cy) RX12 cX12_mayBy (some .boolean) 8 1 21) {z : Int32 × jS} (Q : jRet X (jMain D ad cy) (some (.int z.1), z.2))  (a0 : Int32) (S : jS) (hE : f_X12_mayBy_207   a0 S = some z) : jJ X (jMain D ad cy) 207 [] [.int a0] S := by
  unfold f_X12_mayBy_207 at hE
  exact j_zret C Q dX12_mayBy_207 hE
set_option maxRecDepth 100000 in
theorem p_X12_mayBy_202 {X : jX} {D : va_G} {ad : Nat → Nat} {cy : Nat → ClassId} (C : jC X (jMain D ad cy) RX12 cX12_mayBy (some .boolean) 8 1 21) {z : Int32 × jS} (Q : jRet X (jMain D ad cy) (some (.int z.1), z.2))   (S : jS) (hE : f_X12_mayBy_202    S = some z) : jJ X (jMain D ad cy) 202 [] [] S := by
  unfold f_X12_mayBy_202 at hE
  refine j_iconst (v := 1) C dX12_mayBy_202 jc_ic_1 ?_
  refine j_goto (tgt := 207) C dX12_mayBy_203 rfl ?_
  exact p_X12_mayBy_207 C Q  1 S hE
set_option maxRecDepth 100000 in
theorem p_X12_mayBy_206 {X : jX} {D : va_G} {ad : Nat → Nat} {cy : Nat → ClassId} (C : jC X (jMain D ad cy) RX12 cX12_mayBy (some .boolean) 8 1 21) {z : Int32 × jS} (Q : jRet X (jMain D ad cy) (some (.int z.1), z.2))   (S : jS) (hE : f_X12_mayBy_206    S = some z) : jJ X (jMain D ad cy) 206 [] [] S := by
  unfold f_X12_mayBy_206 at hE
  refine j_iconst (v := 0) C dX12_mayBy_206 jc_ic_0 ?_
  exact p_X12_mayBy_207 C Q  0 S hE
set_option maxRecDepth 100000 in
theorem p_X12_mayBy_79 {X : jX} {D : va_G} {ad : Nat → Nat} {cy : Nat → ClassId} (C : jC X (jMain D ad cy) RX12 cX12_mayBy (some .boolean) 8 1 21) {z : Int32 × jS} (Q : jRet X (jMain D ad cy) (some (.int z.1), z.2))  (a0 : Int32) (x1 : Int32) (x2 : Int32) (x3 : Int32) (x4 : Int32) (x5 : Int32) (x6 : Int32) (S : jS) (hE : f_X12_mayBy_79   a0 x1 x2 x3 x4 x5 x6 S = some z) : jJ X (jMain D ad cy) 79 [(0, .ref (ad 41)), (1, .int x1), (2, .int x2), (3, .int x3), (4, .int x4), (5, .int x5), (6, .int x6)] [.int a0] S := by
  unfold f_X12_mayBy_79 at hE
  refine j_istore (lv' := [(7, .int a0), (0, .ref (ad 41)), (1, .int x1), (2, .int x2), (3, .int x3), (4, .int x4), (5, .int x5), (6, .int x6)]) C dX12_mayBy_79 (by decide) rfl ?_
  refine j_iload_n C dX12_mayBy_81 2 rfl ?_
  refine j_case hE (fun e hE => ?_) (fun e0 hE => ?_)
  · refine j_tin (tgt := 116) C dX12_mayBy_82 (by rw [e]; decide) (by rw [e]; decide) (by rw [e]; rfl) rfl ?_
    refine j_iload C dX12_mayBy_116 7 rfl ?_
    exact j_zret C Q dX12_mayBy_118 hE
  · skip
    refine j_case hE (fun e hE => ?_) (fun e1 hE => ?_)
    · refine j_tin (tgt := 119) C dX12_mayBy_82 (by rw [e]; decide) (by rw [e]; decide) (by rw [e]; rfl) rfl ?_
      refine j_iload C dX12_mayBy_119 0 rfl ?_
      exact j_zret C Q dX12_mayBy_121 hE
    · skip
      refine j_case hE (fun e hE => ?_) (fun e2 hE => ?_)
      · refine j_tin (tgt := 122) C dX12_mayBy_82 (by rw [e]; decide) (by rw [e]; decide) (by rw [e]; rfl) rfl ?_
        refine j_iload C dX12_mayBy_122 7 rfl ?_
        refine j_if_ne (tgt := 142) C dX12_mayBy_124 rfl hE (fun hE => ?_) (fun hE => ?_)
        · refine j_sub [] rfl ?_
          exact p_X12_mayBy_142 C Q   S hE
        · refine j_iload_n C dX12_mayBy_127 4 rfl ?_
          refine k_X12_77_X12_isSquare C dX12_mayBy_128 hE (Nat.le_of_ble_eq_true rfl) (Nat.le_of_ble_eq_true rfl) (Nat.le_of_ble_eq_true rfl) (fun v2 S1 hE => ?_)
          refine j_if_eq (tgt := 146) C dX12_mayBy_131 rfl hE (fun hE => ?_) (fun hE => ?_)
          · refine j_sub [] rfl ?_
            exact p_X12_mayBy_146 C Q   S1 hE
          · refine j_iload C dX12_mayBy_134 5 rfl ?_
            refine k_X12_77_X12_isSquare C dX12_mayBy_136 hE (Nat.le_of_ble_eq_true rfl) (Nat.le_of_ble_eq_true rfl) (Nat.le_of_ble_eq_true rfl) (fun v4 S3 hE => ?_)
            refine j_if_eq (tgt := 146) C dX12_mayBy_139 rfl hE (fun hE => ?_) (fun hE => ?_)
            · refine j_sub [] rfl ?_
              exact p_X12_mayBy_146 C Q   S3 hE
            · refine j_sub [] rfl ?_
              exact p_X12_mayBy_142 C Q   S3 hE
      · skip
        refine j_case hE (fun e hE => ?_) (fun e3 hE => ?_)
        · refine j_tin (tgt := 148) C dX12_mayBy_82 (by rw [e]; decide) (by rw [e]; decide) (by rw [e]; rfl) rfl ?_
          refine j_iload C dX12_mayBy_148 6 rfl ?_
          refine j_if_eq (tgt := 173) C dX12_mayBy_150 rfl hE (fun hE => ?_) (fun hE => ?_)
          · refine j_sub [] rfl ?_
            exact p_X12_mayBy_173 C Q   S hE
          · refine j_iload_n C dX12_mayBy_153 4 rfl ?_
            refine j_iload C dX12_mayBy_154 5 rfl ?_
            refine j_isub C dX12_mayBy_156 ?_
            refine j_iload_n C dX12_mayBy_157 3 rfl ?_
            refine j_icmp_ge (tgt := 169) C dX12_mayBy_158 rfl hE (fun hE => ?_) (fun hE => ?_)
            · refine j_sub [] rfl ?_
              exact p_X12_mayBy_169 C Q   S hE
            · refine j_iload C dX12_mayBy_161 5 rfl ?_
              refine j_iload_n C dX12_mayBy_163 4 rfl ?_
              refine j_isub C dX12_mayBy_164 ?_
              refine j_iload_n C dX12_mayBy_165 3 rfl ?_
              refine j_icmp_lt (tgt := 173) C dX12_mayBy_166 rfl hE (fun hE => ?_) (fun hE => ?_)
              · refine j_sub [] rfl ?_
                exact p_X12_mayBy_173 C Q   S hE
              · refine j_sub [] rfl ?_
                exact p_X12_mayBy_169 C Q   S hE
        · skip
          refine j_case hE (fun e hE => ?_) (fun e4 hE => ?_)
          · refine j_tin (tgt := 175) C dX12_mayBy_82 (by rw [e]; decide) (by rw [e]; decide) (by rw [e]; rfl) rfl ?_
            refine j_iload C dX12_mayBy_175 0 rfl ?_
            refine j_if_ne (tgt := 202) C dX12_mayBy_177 rfl hE (fun hE => ?_) (fun hE => ?_)
            · refine j_sub [] rfl ?_
              exact p_X12_mayBy_202 C Q   S hE
            · refine j_aload_n C dX12_mayBy_180 1 rfl ?_
              refine g_X12_23_41 C dX12_mayBy_181 ?_
              refine j_iload_n C dX12_mayBy_184 4 rfl ?_
              refine l_46 C dX12_mayBy_185 hE (fun v5 hE => ?_)
              refine j_iload C dX12_mayBy_186 5 rfl ?_
              refine j_icmp_ne (tgt := 206) C dX12_mayBy_188 rfl hE (fun hE => ?_) (fun hE => ?_)
              · refine j_sub [] rfl ?_
                exact p_X12_mayBy_206 C Q   S hE
              · refine j_aload_n C dX12_mayBy_191 1 rfl ?_
                refine g_X12_23_41 C dX12_mayBy_192 ?_
                refine j_iload C dX12_mayBy_195 5 rfl ?_
                refine l_46 C dX12_mayBy_197 hE (fun v6 hE => ?_)
                refine j_iload_n C dX12_mayBy_198 4 rfl ?_
                refine j_icmp_ne (tgt := 206) C dX12_mayBy_199 rfl hE (fun hE => ?_) (fun hE => ?_)
                · refine j_sub [] rfl ?_
                  exact p_X12_mayBy_206 C Q   S hE
                · refine j_sub [] rfl ?_
                  exact p_X12_mayBy_202 C Q   S hE
          · skip
            refine j_tout (tgt := 208) C dX12_mayBy_82 (by have w0 := lv_neT (a := 1) e0 (by decide); have w1 := lv_neT (a := 2) e1 (by decide); have w2 := lv_neT (a := 3) e2 (by decide); have w3 := lv_neT (a := 4) e3 (by decide); have w4 := lv_neT (a := 5) e4 (by decide); omega) rfl ?_
            refine j_iload C dX12_mayBy_208 6 rfl ?_
            exact j_zret C Q dX12_mayBy_210 hE
set_option maxRecDepth 100000 in
theorem p_X12_mayBy_78 {X : jX} {D : va_G} {ad : Nat → Nat} {cy : Nat → ClassId} (C : jC X (jMain D ad cy) RX12 cX12_mayBy (some .boolean) 8 1 21) {z : Int32 × jS} (Q : jRet X (jMain D ad cy) (some (.int z.1), z.2))  (x1 : Int32) (x2 : Int32) (x3 : Int32) (x4 : Int32) (x5 : Int32) (x6 : Int32) (S : jS) (hE : f_X12_mayBy_78   x1 x2 x3 x4 x5 x6 S = some z) : jJ X (jMain D ad cy) 78 [(0, .ref (ad 41)), (1, .int x1), (2, .int x2), (3, .int x3), (4, .int x4), (5, .int x5), (6, .int x6)] [] S := by
  unfold f_X12_mayBy_78 at hE
  refine j_iconst (v := 0) C dX12_mayBy_78 jc_ic_0 ?_
  exact p_X12_mayBy_79 C Q  0 x1 x2 x3 x4 x5 x6 S hE
set_option maxRecDepth 100000 in
theorem p_X12_mayBy_50 {X : jX} {D : va_G} {ad : Nat → Nat} {cy : Nat → ClassId} (C : jC X (jMain D ad cy) RX12 cX12_mayBy (some .boolean) 8 1 21) {z : Int32 × jS} (Q : jRet X (jMain D ad cy) (some (.int z.1), z.2))  (a0 : Int32) (x1 : Int32) (x2 : Int32) (x3 : Int32) (x4 : Int32) (x5 : Int32) (S : jS) (hE : f_X12_mayBy_50   a0 x1 x2 x3 x4 x5 S = some z) : jJ X (jMain D ad cy) 50 [(0, .ref (ad 41)), (1, .int x1), (2, .int x2), (3, .int x3), (4, .int x4), (5, .int x5)] [.int a0] S := by
  unfold f_X12_mayBy_50 at hE
  refine j_istore (lv' := [(6, .int a0), (0, .ref (ad 41)), (1, .int x1), (2, .int x2), (3, .int x3), (4, .int x4), (5, .int x5)]) C dX12_mayBy_50 (by decide) rfl ?_
  refine j_iload C dX12_mayBy_52 6 rfl ?_
  refine j_if_eq (tgt := 78) C dX12_mayBy_54 rfl hE (fun hE => ?_) (fun hE => ?_)
  · refine j_sub [1, 2, 3, 4, 5, 6, 0] rfl ?_
    exact p_X12_mayBy_78 C Q  x1 x2 x3 x4 x5 a0 S hE
  · refine j_aload_n C dX12_mayBy_57 1 rfl ?_
    refine j_iload_n C dX12_mayBy_58 4 rfl ?_
    refine k_X12_73_X12_isPrime C dX12_mayBy_59 hE (Nat.le_of_ble_eq_true rfl) (Nat.le_of_ble_eq_true rfl) (Nat.le_of_ble_eq_true rfl) (fun v2 S1 hE => ?_)
    refine j_if_ne (tgt := 78) C dX12_mayBy_62 rfl hE (fun hE => ?_) (fun hE => ?_)
    · refine j_sub [1, 2, 3, 4, 5, 6, 0] rfl ?_
      exact p_X12_mayBy_78 C Q  x1 x2 x3 x4 x5 a0 S1 hE
    · refine j_aload_n C dX12_mayBy_65 1 rfl ?_
      refine j_iload C dX12_mayBy_66 5 rfl ?_
      refine k_X12_73_X12_isPrime C dX12_mayBy_68 hE (Nat.le_of_ble_eq_true rfl) (Nat.le_of_ble_eq_true rfl) (Nat.le_of_ble_eq_true rfl) (fun v4 S3 hE => ?_)
      refine j_if_ne (tgt := 78) C dX12_mayBy_71 rfl hE (fun hE => ?_) (fun hE => ?_)
      · refine j_sub [1, 2, 3, 4, 5, 6, 0] rfl ?_
        exact p_X12_mayBy_78 C Q  x1 x2 x3 x4 x5 a0 S3 hE
      · refine j_iconst (v := 1) C dX12_mayBy_74 jc_ic_1 ?_
        refine j_goto (tgt := 79) C dX12_mayBy_75 rfl ?_
        refine j_sub [1, 2, 3, 4, 5, 6, 0] rfl ?_
        exact p_X12_mayBy_79 C Q  1 x1 x2 x3 x4 x5 a0 S3 hE
set_option maxRecDepth 100000 in
theorem p_X12_mayBy_49 {X : jX} {D : va_G} {ad : Nat → Nat} {cy : Nat → ClassId} (C : jC X (jMain D ad cy) RX12 cX12_mayBy (some .boolean) 8 1 21) {z : Int32 × jS} (Q : jRet X (jMain D ad cy) (some (.int z.1), z.2))  (x1 : Int32) (x2 : Int32) (x3 : Int32) (x4 : Int32) (x5 : Int32) (S : jS) (hE : f_X12_mayBy_49   x1 x2 x3 x4 x5 S = some z) : jJ X (jMain D ad cy) 49 [(0, .ref (ad 41)), (1, .int x1), (2, .int x2), (3, .int x3), (4, .int x4), (5, .int x5)] [] S := by
  unfold f_X12_mayBy_49 at hE
  refine j_iconst (v := 0) C dX12_mayBy_49 jc_ic_0 ?_
  exact p_X12_mayBy_50 C Q  0 x1 x2 x3 x4 x5 S hE
set_option maxRecDepth 100000 in
theorem p_X12_mayBy_29 {X : jX} {D : va_G} {ad : Nat → Nat} {cy : Nat → ClassId} (C : jC X (jMain D ad cy) RX12 cX12_mayBy (some .boolean) 8 1 21) {z : Int32 × jS} (Q : jRet X (jMain D ad cy) (some (.int z.1), z.2))  (a0 : Int32) (x1 : Int32) (x2 : Int32) (x3 : Int32) (x4 : Int32) (S : jS) (hE : f_X12_mayBy_29   a0 x1 x2 x3 x4 S = some z) : jJ X (jMain D ad cy) 29 [(0, .ref (ad 41)), (1, .int x1), (2, .int x2), (3, .int x3), (4, .int x4)] [.int a0] S := by
  unfold f_X12_mayBy_29 at hE
  refine j_istore (lv' := [(5, .int a0), (0, .ref (ad 41)), (1, .int x1), (2, .int x2), (3, .int x3), (4, .int x4)]) C dX12_mayBy_29 (by decide) rfl ?_
  refine j_iload C dX12_mayBy_31 0 rfl ?_
  refine j_if_eq (tgt := 49) C dX12_mayBy_33 rfl hE (fun hE => ?_) (fun hE => ?_)
  · refine j_sub [1, 2, 3, 4, 5, 0] rfl ?_
    exact p_X12_mayBy_49 C Q  x1 x2 x3 x4 a0 S hE
  · refine j_iload_n C dX12_mayBy_36 4 rfl ?_
    refine j_iload C dX12_mayBy_37 5 rfl ?_
    refine j_isub C dX12_mayBy_39 ?_
    refine j_iconst (v := 2) C dX12_mayBy_40 jc_ic_2 ?_
    refine j_irem C dX12_mayBy_41 hE (fun v1 hE => ?_)
    refine j_if_ne (tgt := 49) C dX12_mayBy_42 rfl hE (fun hE => ?_) (fun hE => ?_)
    · refine j_sub [1, 2, 3, 4, 5, 0] rfl ?_
      exact p_X12_mayBy_49 C Q  x1 x2 x3 x4 a0 S hE
    · refine j_iconst (v := 1) C dX12_mayBy_45 jc_ic_1 ?_
      refine j_goto (tgt := 50) C dX12_mayBy_46 rfl ?_
      refine j_sub [1, 2, 3, 4, 5, 0] rfl ?_
      exact p_X12_mayBy_50 C Q  1 x1 x2 x3 x4 a0 S hE
set_option maxRecDepth 100000 in
theorem p_X12_mayBy_24 {X : jX} {D : va_G} {ad : Nat → Nat} {cy : Nat → ClassId} (C : jC X (jMain D ad cy) RX12 cX12_mayBy (some .boolean) 8 1 21) {z : Int32 × jS} (Q : jRet X (jMain D ad cy) (some (.int z.1), z.2))  (x1 : Int32) (x2 : Int32) (x3 : Int32) (x4 : Int32) (S : jS) (hE : f_X12_mayBy_24   x1 x2 x3 x4 S = some z) : jJ X (jMain D ad cy) 24 [(0, .ref (ad 41)), (1, .int x1), (2, .int x2), (3, .int x3), (4, .int x4)] [] S := by
  unfold f_X12_mayBy_24 at hE
  refine j_iconst (v := 1) C dX12_mayBy_24 jc_ic_1 ?_
  refine j_goto (tgt := 29) C dX12_mayBy_25 rfl ?_
  exact p_X12_mayBy_29 C Q  1 x1 x2 x3 x4 S hE
set_option maxRecDepth 100000 in
theorem p_X12_mayBy_28 {X : jX} {D : va_G} {ad : Nat → Nat} {cy : Nat → ClassId} (C : jC X (jMain D ad cy) RX12 cX12_mayBy (some .boolean) 8 1 21) {z : Int32 × jS} (Q : jRet X (jMain D ad cy) (some (.int z.1), z.2))  (x1 : Int32) (x2 : Int32) (x3 : Int32) (x4 : Int32) (S : jS) (hE : f_X12_mayBy_28   x1 x2 x3 x4 S = some z) : jJ X (jMain D ad cy) 28 [(0, .ref (ad 41)), (1, .int x1), (2, .int x2), (3, .int x3), (4, .int x4)] [] S := by
  unfold f_X12_mayBy_28 at hE
  refine j_iconst (v := 0) C dX12_mayBy_28 jc_ic_0 ?_
  exact p_X12_mayBy_29 C Q  0 x1 x2 x3 x4 S hE
set_option maxRecDepth 100000 in
theorem p_X12_mayBy_e {X : jX} {D : va_G} {ad : Nat → Nat} {cy : Nat → ClassId} (C : jC X (jMain D ad cy) RX12 cX12_mayBy (some .boolean) 8 1 21) {z : Int32 × jS} (Q : jRet X (jMain D ad cy) (some (.int z.1), z.2))  (x1 : Int32) (x2 : Int32) (x3 : Int32) (x4 : Int32) (S : jS) (hE : f_X12_mayBy_e   x1 x2 x3 x4 S = some z) : jJ X (jMain D ad cy) 0 [(0, .ref (ad 41)), (1, .int x1), (2, .int x2), (3, .int x3), (4, .int x4)] [] S := by
  unfold f_X12_mayBy_e at hE
  refine j_iload_n C dX12_mayBy_0 3 rfl ?_
  refine j_iload C dX12_mayBy_1 4 rfl ?_
  refine j_icmp_eq (tgt := 24) C dX12_mayBy_3 rfl hE (fun hE => ?_) (fun hE => ?_)
  · exact p_X12_mayBy_24 C Q  x1 x2 x3 x4 S hE
  · refine j_iload_n C dX12_mayBy_6 3 rfl ?_
    refine j_iload C dX12_mayBy_7 4 rfl ?_
    refine k_X12_69_X12_divides C dX12_mayBy_9 hE (Nat.le_of_ble_eq_true rfl) (Nat.le_of_ble_eq_true rfl) (Nat.le_of_ble_eq_true rfl) (fun v2 S1 hE => ?_)
    refine j_if_ne (tgt := 28) C dX12_mayBy_12 rfl hE (fun hE => ?_) (fun hE => ?_)
    · exact p_X12_mayBy_28 C Q  x1 x2 x3 x4 S1 hE
    · refine j_iload C dX12_mayBy_15 4 rfl ?_
      refine j_iload_n C dX12_mayBy_17 3 rfl ?_
      refine k_X12_69_X12_divides C dX12_mayBy_18 hE (Nat.le_of_ble_eq_true rfl) (Nat.le_of_ble_eq_true rfl) (Nat.le_of_ble_eq_true rfl) (fun v4 S3 hE => ?_)
      refine j_if_ne (tgt := 28) C dX12_mayBy_21 rfl hE (fun hE => ?_) (fun hE => ?_)
      · exact p_X12_mayBy_28 C Q  x1 x2 x3 x4 S3 hE
      · exact p_X12_mayBy_24 C Q  x1 x2 x3 x4 S3 hE
theorem c_X12_mayBy {l : Launch} {D : va_G} {ad : Nat → Nat} {cy : Nat → ClassId} (hO : jOk (jMain D ad cy)) (x1 : Int32) (x2 : Int32) (x3 : Int32) (x4 : Int32) (S : jS) {z : Int32 × jS} (hz : f_X12_mayBy x1 x2 x3 x4 S = some z) : Met l yX12_mayBy (.code yX12_mayBy cX12_mayBy 8 (some .boolean) :: jT) { frames := 1, cells := 0, slots := 0, locals := 21 } (va_Pc [.ref (ad 41), .int x1, .int x2, .int x3, .int x4] (jInv (jMain D ad cy) S)) (jQ (jMain D ad cy) (some (.int z.1), z.2)) 0 0 (yA (jMain D ad cy)) :=
  jMet hO (by decide +kernel) rfl (Nat.le_of_ble_eq_true rfl) (fun X _ C Q => p_X12_mayBy_e C Q x1 x2 x3 x4 S hz)
theorem k_X12_80_X12_mayBy {X : jX} {D : va_G} {ad : Nat → Nat} {cy : Nat → ClassId} {cc : ByteArray} {ret : Option FieldType} {nL fr lo pc : Nat} {lv : List (Nat × Value)} {st : List Value} {S : jS} {β : Type} {z : β} (C : jC X (jMain D ad cy) RX12 cc ret nL fr lo) {a0 : Int32} {a1 : Int32} {a2 : Int32} {a3 : Int32} {E : Int32 → jS → Option β} (d : decode cc pc = .ok (.invokevirtual 80, 3)) (hE : jcl (f_X12_mayBy a0 a1 a2 a3 S) E = some z) (hfr : 2 ≤ fr) (hlo : 48 ≤ lo) (hst : (st.map fun v => v.category).sum ≤ 8) (K : ∀ (v : Int32) (S1 : jS), E v S1 = some z → jJ X (jMain D ad cy) (pc + 3) lv (.int v :: st) S1) : jJ X (jMain D ad cy) pc lv (.int a3 :: .int a2 :: .int a1 :: .int a0 :: .ref (ad 41) :: st) S := by
  obtain ⟨v, h1, h2⟩ := jcl_some hE
  exact j_callV (k := 41) (ci := 12) (T := TX12) (N := 25) (n := 4) (As := [.int a0, .int a1, .int a2, .int a3]) C (c_X12_mayBy C.2.2.2.2.2.2.1 a0 a1 a2 a3 S h1) tw_1044 tw_1046 tw_43 tw_81 tw_1047 (by decide +kernel) rfl (by decide : 41 < 56) rfl rfl hfr hlo hst rfl d (K _ _ h2)
set_option maxRecDepth 100000 in
theorem p_X12_mayNow_e {X : jX} {D : va_G} {ad : Nat → Nat} {cy : Nat → ClassId} (C : jC X (jMain D ad cy) RX12 cX12_mayNow (some .boolean) 3 2 48) {z : Int32 × jS} (Q : jRet X (jMain D ad cy) (some (.int z.1), z.2))  (x1 : Int32) (x2 : Int32) (S : jS) (hE : f_X12_mayNow_e   x1 x2 S = some z) : jJ X (jMain D ad cy) 0 [(0, .ref (ad 41)), (1, .int x1), (2, .int x2)] [] S := by
  unfold f_X12_mayNow_e at hE
  refine j_aload_n C dX12_mayNow_0 0 rfl ?_
  refine j_aload_n C dX12_mayNow_1 0 rfl ?_
  refine g_X12_7_41 C dX12_mayNow_2 ?_
  refine j_bipush (v := 8) C dX12_mayNow_5 jc_bp_8 ?_
  refine l_42 C dX12_mayNow_7 hE (fun v1 hE => ?_)
  refine j_aload_n C dX12_mayNow_8 0 rfl ?_
  refine g_X12_7_41 C dX12_mayNow_9 ?_
  refine j_bipush (v := 9) C dX12_mayNow_12 jc_bp_9 ?_
  refine l_42 C dX12_mayNow_14 hE (fun v2 hE => ?_)
  refine j_iload_n C dX12_mayNow_15 1 rfl ?_
  refine j_iload_n C dX12_mayNow_16 2 rfl ?_
  refine k_X12_80_X12_mayBy C dX12_mayNow_17 hE (Nat.le_of_ble_eq_true rfl) (Nat.le_of_ble_eq_true rfl) (Nat.le_of_ble_eq_true rfl) (fun v4 S3 hE => ?_)
  exact j_zret C Q dX12_mayNow_20 hE
theorem c_X12_mayNow {l : Launch} {D : va_G} {ad : Nat → Nat} {cy : Nat → ClassId} (hO : jOk (jMain D ad cy)) (x1 : Int32) (x2 : Int32) (S : jS) {z : Int32 × jS} (hz : f_X12_mayNow x1 x2 S = some z) : Met l yX12_mayNow (.code yX12_mayNow cX12_mayNow 3 (some .boolean) :: jT) { frames := 2, cells := 0, slots := 0, locals := 48 } (va_Pc [.ref (ad 41), .int x1, .int x2] (jInv (jMain D ad cy) S)) (jQ (jMain D ad cy) (some (.int z.1), z.2)) 0 0 (yA (jMain D ad cy)) :=
  jMet hO (by decide +kernel) rfl (Nat.le_of_ble_eq_true rfl) (fun X _ C Q => p_X12_mayNow_e C Q x1 x2 S hz)
theorem k_X12_117_X12_mayNow {X : jX} {D : va_G} {ad : Nat → Nat} {cy : Nat → ClassId} {cc : ByteArray} {ret : Option FieldType} {nL fr lo pc : Nat} {lv : List (Nat × Value)} {st : List Value} {S : jS} {β : Type} {z : β} (C : jC X (jMain D ad cy) RX12 cc ret nL fr lo) {a0 : Int32} {a1 : Int32} {E : Int32 → jS → Option β} (d : decode cc pc = .ok (.invokevirtual 117, 3)) (hE : jcl (f_X12_mayNow a0 a1 S) E = some z) (hfr : 3 ≤ fr) (hlo : 70 ≤ lo) (hst : (st.map fun v => v.category).sum ≤ 8) (K : ∀ (v : Int32) (S1 : jS), E v S1 = some z → jJ X (jMain D ad cy) (pc + 3) lv (.int v :: st) S1) : jJ X (jMain D ad cy) pc lv (.int a1 :: .int a0 :: .ref (ad 41) :: st) S := by
  obtain ⟨v, h1, h2⟩ := jcl_some hE
  exact j_callV (k := 41) (ci := 12) (T := TX12) (N := 25) (n := 2) (As := [.int a0, .int a1]) C (c_X12_mayNow C.2.2.2.2.2.2.1 a0 a1 S h1) tw_1040 tw_1042 tw_42 tw_81 tw_1043 (by decide +kernel) rfl (by decide : 41 < 56) rfl rfl hfr hlo hst rfl d (K _ _ h2)
set_option maxRecDepth 100000 in
theorem p_X12_isQuarrel_34 {X : jX} {D : va_G} {ad : Nat → Nat} {cy : Nat → ClassId} (C : jC X (jMain D ad cy) RX12 cX12_isQuarrel (some .boolean) 2 3 70) {z : Int32 × jS} (Q : jRet X (jMain D ad cy) (some (.int z.1), z.2))  (a0 : Int32) (S : jS) (hE : f_X12_isQuarrel_34   a0 S = some z) : jJ X (jMain D ad cy) 34 [] [.int a0] S := by
  unfold f_X12_isQuarrel_34 at hE
  exact j_zret C Q dX12_isQuarrel_34 hE
set_option maxRecDepth 100000 in
theorem p_X12_isQuarrel_33 {X : jX} {D : va_G} {ad : Nat → Nat} {cy : Nat → ClassId} (C : jC X (jMain D ad cy) RX12 cX12_isQuarrel (some .boolean) 2 3 70) {z : Int32 × jS} (Q : jRet X (jMain D ad cy) (some (.int z.1), z.2))   (S : jS) (hE : f_X12_isQuarrel_33    S = some z) : jJ X (jMain D ad cy) 33 [] [] S := by
  unfold f_X12_isQuarrel_33 at hE
  refine j_iconst (v := 0) C dX12_isQuarrel_33 jc_ic_0 ?_
  exact p_X12_isQuarrel_34 C Q  0 S hE
set_option maxRecDepth 100000 in
theorem p_X12_isQuarrel_e {X : jX} {D : va_G} {ad : Nat → Nat} {cy : Nat → ClassId} (C : jC X (jMain D ad cy) RX12 cX12_isQuarrel (some .boolean) 2 3 70) {z : Int32 × jS} (Q : jRet X (jMain D ad cy) (some (.int z.1), z.2))  (x1 : Int32) (S : jS) (hE : f_X12_isQuarrel_e   x1 S = some z) : jJ X (jMain D ad cy) 0 [(0, .ref (ad 41)), (1, .int x1)] [] S := by
  unfold f_X12_isQuarrel_e at hE
  refine j_aload_n C dX12_isQuarrel_0 0 rfl ?_
  refine j_iload_n C dX12_isQuarrel_1 1 rfl ?_
  refine k_X12_114_X12_isPair C dX12_isQuarrel_2 hE (Nat.le_of_ble_eq_true rfl) (Nat.le_of_ble_eq_true rfl) (Nat.le_of_ble_eq_true rfl) (fun v2 S1 hE => ?_)
  refine j_if_eq (tgt := 33) C dX12_isQuarrel_5 rfl hE (fun hE => ?_) (fun hE => ?_)
  · refine j_sub [] rfl ?_
    exact p_X12_isQuarrel_33 C Q   S1 hE
  · refine j_aload_n C dX12_isQuarrel_8 0 rfl ?_
    refine j_aload_n C dX12_isQuarrel_9 0 rfl ?_
    refine g_X12_30_41 C dX12_isQuarrel_10 ?_
    refine j_iload_n C dX12_isQuarrel_13 1 rfl ?_
    refine l_47 C dX12_isQuarrel_14 hE (fun v3 hE => ?_)
    refine j_aload_n C dX12_isQuarrel_15 0 rfl ?_
    refine g_X12_30_41 C dX12_isQuarrel_16 ?_
    refine j_iload_n C dX12_isQuarrel_19 1 rfl ?_
    refine j_iconst (v := 1) C dX12_isQuarrel_20 jc_ic_1 ?_
    refine j_iadd C dX12_isQuarrel_21 ?_
    refine l_47 C dX12_isQuarrel_22 hE (fun v4 hE => ?_)
    refine k_X12_117_X12_mayNow C dX12_isQuarrel_23 hE (Nat.le_of_ble_eq_true rfl) (Nat.le_of_ble_eq_true rfl) (Nat.le_of_ble_eq_true rfl) (fun v6 S5 hE => ?_)
    refine j_if_ne (tgt := 33) C dX12_isQuarrel_26 rfl hE (fun hE => ?_) (fun hE => ?_)
    · refine j_sub [] rfl ?_
      exact p_X12_isQuarrel_33 C Q   S5 hE
    · refine j_iconst (v := 1) C dX12_isQuarrel_29 jc_ic_1 ?_
      refine j_goto (tgt := 34) C dX12_isQuarrel_30 rfl ?_
      refine j_sub [] rfl ?_
      exact p_X12_isQuarrel_34 C Q  1 S5 hE
theorem c_X12_isQuarrel {l : Launch} {D : va_G} {ad : Nat → Nat} {cy : Nat → ClassId} (hO : jOk (jMain D ad cy)) (x1 : Int32) (S : jS) {z : Int32 × jS} (hz : f_X12_isQuarrel x1 S = some z) : Met l yX12_isQuarrel (.code yX12_isQuarrel cX12_isQuarrel 2 (some .boolean) :: jT) { frames := 3, cells := 0, slots := 0, locals := 70 } (va_Pc [.ref (ad 41), .int x1] (jInv (jMain D ad cy) S)) (jQ (jMain D ad cy) (some (.int z.1), z.2)) 0 0 (yA (jMain D ad cy)) :=
  jMet hO (by decide +kernel) rfl (Nat.le_of_ble_eq_true rfl) (fun X _ C Q => p_X12_isQuarrel_e C Q x1 S hz)
theorem k_X12_120_X12_isQuarrel {X : jX} {D : va_G} {ad : Nat → Nat} {cy : Nat → ClassId} {cc : ByteArray} {ret : Option FieldType} {nL fr lo pc : Nat} {lv : List (Nat × Value)} {st : List Value} {S : jS} {β : Type} {z : β} (C : jC X (jMain D ad cy) RX12 cc ret nL fr lo) {a0 : Int32} {E : Int32 → jS → Option β} (d : decode cc pc = .ok (.invokevirtual 120, 3)) (hE : jcl (f_X12_isQuarrel a0 S) E = some z) (hfr : 4 ≤ fr) (hlo : 91 ≤ lo) (hst : (st.map fun v => v.category).sum ≤ 8) (K : ∀ (v : Int32) (S1 : jS), E v S1 = some z → jJ X (jMain D ad cy) (pc + 3) lv (.int v :: st) S1) : jJ X (jMain D ad cy) pc lv (.int a0 :: .ref (ad 41) :: st) S := by
  obtain ⟨v, h1, h2⟩ := jcl_some hE
  exact j_callV (k := 41) (ci := 12) (T := TX12) (N := 25) (n := 1) (As := [.int a0]) C (c_X12_isQuarrel C.2.2.2.2.2.2.1 a0 S h1) tw_1032 tw_1034 tw_40 tw_81 tw_1035 (by decide +kernel) rfl (by decide : 41 < 56) rfl rfl hfr hlo hst rfl d (K _ _ h2)
set_option maxRecDepth 100000 in
theorem p_X12_quarrelsIn_23 {X : jX} {D : va_G} {ad : Nat → Nat} {cy : Nat → ClassId} (C : jC X (jMain D ad cy) RX12 cX12_quarrelsIn (some .boolean) 2 4 91) {z : Int32 × jS} (Q : jRet X (jMain D ad cy) (some (.int z.1), z.2))  (a0 : Int32) (S : jS) (hE : f_X12_quarrelsIn_23   a0 S = some z) : jJ X (jMain D ad cy) 23 [] [.int a0] S := by
  unfold f_X12_quarrelsIn_23 at hE
  exact j_zret C Q dX12_quarrelsIn_23 hE
set_option maxRecDepth 100000 in
theorem p_X12_quarrelsIn_18 {X : jX} {D : va_G} {ad : Nat → Nat} {cy : Nat → ClassId} (C : jC X (jMain D ad cy) RX12 cX12_quarrelsIn (some .boolean) 2 4 91) {z : Int32 × jS} (Q : jRet X (jMain D ad cy) (some (.int z.1), z.2))   (S : jS) (hE : f_X12_quarrelsIn_18    S = some z) : jJ X (jMain D ad cy) 18 [] [] S := by
  unfold f_X12_quarrelsIn_18 at hE
  refine j_iconst (v := 1) C dX12_quarrelsIn_18 jc_ic_1 ?_
  refine j_goto (tgt := 23) C dX12_quarrelsIn_19 rfl ?_
  exact p_X12_quarrelsIn_23 C Q  1 S hE
set_option maxRecDepth 100000 in
theorem p_X12_quarrelsIn_e {X : jX} {D : va_G} {ad : Nat → Nat} {cy : Nat → ClassId} (C : jC X (jMain D ad cy) RX12 cX12_quarrelsIn (some .boolean) 2 4 91) {z : Int32 × jS} (Q : jRet X (jMain D ad cy) (some (.int z.1), z.2))  (x1 : Int32) (S : jS) (hE : f_X12_quarrelsIn_e   x1 S = some z) : jJ X (jMain D ad cy) 0 [(0, .ref (ad 41)), (1, .int x1)] [] S := by
  unfold f_X12_quarrelsIn_e at hE
  refine j_aload_n C dX12_quarrelsIn_0 0 rfl ?_
  refine j_iload_n C dX12_quarrelsIn_1 1 rfl ?_
  refine k_X12_120_X12_isQuarrel C dX12_quarrelsIn_2 hE (Nat.le_of_ble_eq_true rfl) (Nat.le_of_ble_eq_true rfl) (Nat.le_of_ble_eq_true rfl) (fun v2 S1 hE => ?_)
  refine j_if_ne (tgt := 18) C dX12_quarrelsIn_5 rfl hE (fun hE => ?_) (fun hE => ?_)
  · refine j_sub [] rfl ?_
    exact p_X12_quarrelsIn_18 C Q   S1 hE
  · refine j_aload_n C dX12_quarrelsIn_8 0 rfl ?_
    refine j_iload_n C dX12_quarrelsIn_9 1 rfl ?_
    refine j_iconst (v := 1) C dX12_quarrelsIn_10 jc_ic_1 ?_
    refine j_isub C dX12_quarrelsIn_11 ?_
    refine k_X12_120_X12_isQuarrel C dX12_quarrelsIn_12 hE (Nat.le_of_ble_eq_true rfl) (Nat.le_of_ble_eq_true rfl) (Nat.le_of_ble_eq_true rfl) (fun v4 S3 hE => ?_)
    refine j_if_eq (tgt := 22) C dX12_quarrelsIn_15 rfl hE (fun hE => ?_) (fun hE => ?_)
    · refine j_iconst (v := 0) C dX12_quarrelsIn_22 jc_ic_0 ?_
      refine j_sub [] rfl ?_
      exact p_X12_quarrelsIn_23 C Q  0 S3 hE
    · refine j_sub [] rfl ?_
      exact p_X12_quarrelsIn_18 C Q   S3 hE
theorem c_X12_quarrelsIn {l : Launch} {D : va_G} {ad : Nat → Nat} {cy : Nat → ClassId} (hO : jOk (jMain D ad cy)) (x1 : Int32) (S : jS) {z : Int32 × jS} (hz : f_X12_quarrelsIn x1 S = some z) : Met l yX12_quarrelsIn (.code yX12_quarrelsIn cX12_quarrelsIn 2 (some .boolean) :: jT) { frames := 4, cells := 0, slots := 0, locals := 91 } (va_Pc [.ref (ad 41), .int x1] (jInv (jMain D ad cy) S)) (jQ (jMain D ad cy) (some (.int z.1), z.2)) 0 0 (yA (jMain D ad cy)) :=
  jMet hO (by decide +kernel) rfl (Nat.le_of_ble_eq_true rfl) (fun X _ C Q => p_X12_quarrelsIn_e C Q x1 S hz)
theorem k_X12_128_X12_quarrelsIn {X : jX} {D : va_G} {ad : Nat → Nat} {cy : Nat → ClassId} {cc : ByteArray} {ret : Option FieldType} {nL fr lo pc : Nat} {lv : List (Nat × Value)} {st : List Value} {S : jS} {β : Type} {z : β} (C : jC X (jMain D ad cy) RX12 cc ret nL fr lo) {a0 : Int32} {E : Int32 → jS → Option β} (d : decode cc pc = .ok (.invokevirtual 128, 3)) (hE : jcl (f_X12_quarrelsIn a0 S) E = some z) (hfr : 5 ≤ fr) (hlo : 112 ≤ lo) (hst : (st.map fun v => v.category).sum ≤ 8) (K : ∀ (v : Int32) (S1 : jS), E v S1 = some z → jJ X (jMain D ad cy) (pc + 3) lv (.int v :: st) S1) : jJ X (jMain D ad cy) pc lv (.int a0 :: .ref (ad 41) :: st) S := by
  obtain ⟨v, h1, h2⟩ := jcl_some hE
  exact j_callV (k := 41) (ci := 12) (T := TX12) (N := 25) (n := 1) (As := [.int a0]) C (c_X12_quarrelsIn C.2.2.2.2.2.2.1 a0 S h1) tw_1028 tw_1030 tw_39 tw_81 tw_1031 (by decide +kernel) rfl (by decide : 41 < 56) rfl rfl hfr hlo hst rfl d (K _ _ h2)
set_option maxRecDepth 100000 in
theorem p_X12_of_19 {X : jX} {D : va_G} {ad : Nat → Nat} {cy : Nat → ClassId} (C : jC X (jMain D ad cy) RX12 cX12_of (some .int) 4 5 112) {z : Int32 × jS} (Q : jRet X (jMain D ad cy) (some (.int z.1), z.2))   (S : jS) (hE : f_X12_of_19    S = some z) : jJ X (jMain D ad cy) 19 [(0, .ref (ad 41))] [] S := by
  unfold f_X12_of_19 at hE
  refine j_aload_n C dX12_of_19 0 rfl ?_
  refine j_bipush (v := (-2)) C dX12_of_20 jc_bp_m2 ?_
  refine k_X12_87_X12_bad C dX12_of_22 hE (Nat.le_of_ble_eq_true rfl) (Nat.le_of_ble_eq_true rfl) (Nat.le_of_ble_eq_true rfl) (fun v2 S1 hE => ?_)
  exact j_iret C Q dX12_of_25 hE
set_option maxRecDepth 100000 in
theorem p_X12_of_96 {X : jX} {D : va_G} {ad : Nat → Nat} {cy : Nat → ClassId} (C : jC X (jMain D ad cy) RX12 cX12_of (some .int) 4 5 112) {z : Int32 × jS} (Q : jRet X (jMain D ad cy) (some (.int z.1), z.2))  (a0 : Int32) (S : jS) (hE : f_X12_of_96   a0 S = some z) : jJ X (jMain D ad cy) 96 [] [.int a0] S := by
  unfold f_X12_of_96 at hE
  exact j_iret C Q dX12_of_96 hE
set_option maxRecDepth 100000 in
theorem p_X12_of_109 {X : jX} {D : va_G} {ad : Nat → Nat} {cy : Nat → ClassId} (C : jC X (jMain D ad cy) RX12 cX12_of (some .int) 4 5 112) {z : Int32 × jS} (Q : jRet X (jMain D ad cy) (some (.int z.1), z.2))  (a0 : Int32) (S : jS) (hE : f_X12_of_109   a0 S = some z) : jJ X (jMain D ad cy) 109 [] [.int a0] S := by
  unfold f_X12_of_109 at hE
  exact j_iret C Q dX12_of_109 hE
set_option maxRecDepth 100000 in
theorem p_X12_of_123 {X : jX} {D : va_G} {ad : Nat → Nat} {cy : Nat → ClassId} (C : jC X (jMain D ad cy) RX12 cX12_of (some .int) 4 5 112) {z : Int32 × jS} (Q : jRet X (jMain D ad cy) (some (.int z.1), z.2))  (a0 : Int32) (S : jS) (hE : f_X12_of_123   a0 S = some z) : jJ X (jMain D ad cy) 123 [] [.int a0] S := by
  unfold f_X12_of_123 at hE
  exact j_iret C Q dX12_of_123 hE
set_option maxRecDepth 100000 in
theorem p_X12_of_e {X : jX} {D : va_G} {ad : Nat → Nat} {cy : Nat → ClassId} (C : jC X (jMain D ad cy) RX12 cX12_of (some .int) 4 5 112) {z : Int32 × jS} (Q : jRet X (jMain D ad cy) (some (.int z.1), z.2))  (x1 : Int32) (x2 : Int32) (S : jS) (hE : f_X12_of_e   x1 x2 S = some z) : jJ X (jMain D ad cy) 0 [(0, .ref (ad 41)), (1, .int x1), (2, .int x2)] [] S := by
  unfold f_X12_of_e at hE
  refine j_iload_n C dX12_of_0 1 rfl ?_
  refine k_X12_108_X12_isHouse C dX12_of_1 hE (Nat.le_of_ble_eq_true rfl) (Nat.le_of_ble_eq_true rfl) (Nat.le_of_ble_eq_true rfl) (fun v2 S1 hE => ?_)
  refine j_if_eq (tgt := 19) C dX12_of_4 rfl hE (fun hE => ?_) (fun hE => ?_)
  · refine j_sub [0] rfl ?_
    exact p_X12_of_19 C Q   S1 hE
  · refine j_iload_n C dX12_of_7 2 rfl ?_
    refine j_i2l C dX12_of_8 ?_
    refine j_lconst (v := 0) C dX12_of_9 jc_lc_0 ?_
    refine j_ldc2 (v := 4) C dX12_of_10 tw_1016 ?_
    refine k_X12_59_X12_in C dX12_of_13 hE (Nat.le_of_ble_eq_true rfl) (Nat.le_of_ble_eq_true rfl) (Nat.le_of_ble_eq_true rfl) (fun v4 S3 hE => ?_)
    refine j_if_ne (tgt := 26) C dX12_of_16 rfl hE (fun hE => ?_) (fun hE => ?_)
    · refine j_aload_n C dX12_of_26 0 rfl ?_
      refine k_X12_125_X12_layHand C dX12_of_27 hE (Nat.le_of_ble_eq_true rfl) (Nat.le_of_ble_eq_true rfl) (Nat.le_of_ble_eq_true rfl) (fun S5 hE => ?_)
      refine j_aload_n C dX12_of_30 0 rfl ?_
      refine g_X12_30_41 C dX12_of_31 ?_
      refine j_iload_n C dX12_of_34 1 rfl ?_
      refine l_47 C dX12_of_35 hE (fun v6 hE => ?_)
      refine j_istore_n (i := 3) (lv' := [(3, .int v6), (0, .ref (ad 41)), (1, .int x1), (2, .int x2)]) C dX12_of_36 rfl (by decide) rfl ?_
      refine j_iload_n C dX12_of_37 0 rfl ?_
      refine j_if_ne (tgt := 43) C dX12_of_38 rfl hE (fun hE => ?_) (fun hE => ?_)
      · refine j_iload_n C dX12_of_43 3 rfl ?_
        refine j_case hE (fun e hE => ?_) (fun e0 hE => ?_)
        · refine j_tin (tgt := 76) C dX12_of_44 (by rw [e]; decide) (by rw [e]; decide) (by rw [e]; rfl) rfl ?_
          refine j_aload_n C dX12_of_76 1 rfl ?_
          refine g_X12_23_41 C dX12_of_77 ?_
          refine j_iload_n C dX12_of_80 0 rfl ?_
          refine l_46 C dX12_of_81 hE (fun v7 hE => ?_)
          exact j_iret C Q dX12_of_82 hE
        · skip
          refine j_case hE (fun e hE => ?_) (fun e1 hE => ?_)
          · refine j_tin (tgt := 83) C dX12_of_44 (by rw [e]; decide) (by rw [e]; decide) (by rw [e]; rfl) rfl ?_
            refine j_aload_n C dX12_of_83 1 rfl ?_
            refine j_iload_n C dX12_of_84 0 rfl ?_
            refine k_X12_73_X12_isPrime C dX12_of_85 hE (Nat.le_of_ble_eq_true rfl) (Nat.le_of_ble_eq_true rfl) (Nat.le_of_ble_eq_true rfl) (fun v9 S8 hE => ?_)
            refine j_if_eq (tgt := 95) C dX12_of_88 rfl hE (fun hE => ?_) (fun hE => ?_)
            · refine j_iconst (v := 0) C dX12_of_95 jc_ic_0 ?_
              refine j_sub [] rfl ?_
              exact p_X12_of_96 C Q  0 S8 hE
            · refine j_iconst (v := 1) C dX12_of_91 jc_ic_1 ?_
              refine j_goto (tgt := 96) C dX12_of_92 rfl ?_
              refine j_sub [] rfl ?_
              exact p_X12_of_96 C Q  1 S8 hE
          · skip
            refine j_case hE (fun e hE => ?_) (fun e2 hE => ?_)
            · refine j_tin (tgt := 97) C dX12_of_44 (by rw [e]; decide) (by rw [e]; decide) (by rw [e]; rfl) rfl ?_
              refine j_iload_n C dX12_of_97 0 rfl ?_
              refine k_X12_77_X12_isSquare C dX12_of_98 hE (Nat.le_of_ble_eq_true rfl) (Nat.le_of_ble_eq_true rfl) (Nat.le_of_ble_eq_true rfl) (fun v11 S10 hE => ?_)
              refine j_if_eq (tgt := 108) C dX12_of_101 rfl hE (fun hE => ?_) (fun hE => ?_)
              · refine j_iconst (v := 0) C dX12_of_108 jc_ic_0 ?_
                refine j_sub [] rfl ?_
                exact p_X12_of_109 C Q  0 S10 hE
              · refine j_iconst (v := 1) C dX12_of_104 jc_ic_1 ?_
                refine j_goto (tgt := 109) C dX12_of_105 rfl ?_
                refine j_sub [] rfl ?_
                exact p_X12_of_109 C Q  1 S10 hE
            · skip
              refine j_case hE (fun e hE => ?_) (fun e3 hE => ?_)
              · refine j_tin (tgt := 110) C dX12_of_44 (by rw [e]; decide) (by rw [e]; decide) (by rw [e]; rfl) rfl ?_
                refine j_aload_n C dX12_of_110 1 rfl ?_
                refine j_iload_n C dX12_of_111 2 rfl ?_
                refine k_X12_128_X12_quarrelsIn C dX12_of_112 hE (Nat.le_of_ble_eq_true rfl) (Nat.le_of_ble_eq_true rfl) (Nat.le_of_ble_eq_true rfl) (fun v13 S12 hE => ?_)
                refine j_if_eq (tgt := 122) C dX12_of_115 rfl hE (fun hE => ?_) (fun hE => ?_)
                · refine j_iconst (v := 0) C dX12_of_122 jc_ic_0 ?_
                  refine j_sub [] rfl ?_
                  exact p_X12_of_123 C Q  0 S12 hE
                · refine j_iconst (v := 1) C dX12_of_118 jc_ic_1 ?_
                  refine j_goto (tgt := 123) C dX12_of_119 rfl ?_
                  refine j_sub [] rfl ?_
                  exact p_X12_of_123 C Q  1 S12 hE
              · skip
                refine j_tout (tgt := 124) C dX12_of_44 (by have w0 := lv_neT (a := 1) e0 (by decide); have w1 := lv_neT (a := 2) e1 (by decide); have w2 := lv_neT (a := 3) e2 (by decide); have w3 := lv_neT (a := 4) e3 (by decide); omega) rfl ?_
                refine j_iload_n C dX12_of_124 0 rfl ?_
                exact j_iret C Q dX12_of_125 hE
      · refine j_iconst (v := 0) C dX12_of_41 jc_ic_0 ?_
        exact j_iret C Q dX12_of_42 hE
    · refine j_sub [0] rfl ?_
      exact p_X12_of_19 C Q   S3 hE
theorem c_X12_of {l : Launch} {D : va_G} {ad : Nat → Nat} {cy : Nat → ClassId} (hO : jOk (jMain D ad cy)) (x1 : Int32) (x2 : Int32) (S : jS) {z : Int32 × jS} (hz : f_X12_of x1 x2 S = some z) : Met l yX12_of (.code yX12_of cX12_of 4 (some .int) :: jT) { frames := 5, cells := 0, slots := 0, locals := 112 } (va_Pc [.ref (ad 41), .int x1, .int x2] (jInv (jMain D ad cy) S)) (jQ (jMain D ad cy) (some (.int z.1), z.2)) 0 0 (yA (jMain D ad cy)) :=
  jMet hO (by decide +kernel) rfl (Nat.le_of_ble_eq_true rfl) (fun X _ C Q => p_X12_of_e C Q x1 x2 S hz)
set_option maxRecDepth 100000 in
theorem p_X3_addParts_43 {X : jX} {D : va_G} {ad : Nat → Nat} {cy : Nat → ClassId} (C : jC X (jMain D ad cy) RX3 cX3_addParts (some .int) 4 0 0) {z : Int32 × jS} (Q : jRet X (jMain D ad cy) (some (.int z.1), z.2)) {g : Int32 → Int32 → Int32 → jS → Option (Int32 × jS)} (hg : ∀ (x0 : Int32) (x1 : Int32) (x2 : Int32) (S : jS), g x0 x1 x2 S = some z → jJ X (jMain D ad cy) 4 [(0, .int x0), (1, .int x1), (2, .int x2)] [] S) {k49 : Int32 → jS → Option (Int32 × jS)} (hk49 : ∀ (x1 : Int32) (S : jS), k49 x1 S = some z → jJ X (jMain D ad cy) 49 [(1, .int x1)] [] S) (x0 : Int32) (x1 : Int32) (x2 : Int32) (S : jS) (hE : f_X3_addParts_43  g k49 x0 x1 x2 S = some z) : jJ X (jMain D ad cy) 43 [(0, .int x0), (1, .int x1), (2, .int x2)] [] S := by
  unfold f_X3_addParts_43 at hE
  refine j_iinc (v := (x2 + 1)) (lv' := [(2, .int (x2 + 1)), (0, .int x0), (1, .int x1)]) C dX3_addParts_43 2 rfl (congrArg (fun w => x2 + w) jc_ic_1) (by decide) rfl ?_
  refine j_goto (tgt := 4) C dX3_addParts_46 rfl ?_
  refine j_sub [1, 2, 0] rfl ?_
  exact hg x0 x1 (x2 + 1) S hE
set_option maxRecDepth 100000 in
theorem p_X3_addParts_41 {X : jX} {D : va_G} {ad : Nat → Nat} {cy : Nat → ClassId} (C : jC X (jMain D ad cy) RX3 cX3_addParts (some .int) 4 0 0) {z : Int32 × jS} (Q : jRet X (jMain D ad cy) (some (.int z.1), z.2)) {g : Int32 → Int32 → Int32 → jS → Option (Int32 × jS)} (hg : ∀ (x0 : Int32) (x1 : Int32) (x2 : Int32) (S : jS), g x0 x1 x2 S = some z → jJ X (jMain D ad cy) 4 [(0, .int x0), (1, .int x1), (2, .int x2)] [] S) {k49 : Int32 → jS → Option (Int32 × jS)} (hk49 : ∀ (x1 : Int32) (S : jS), k49 x1 S = some z → jJ X (jMain D ad cy) 49 [(1, .int x1)] [] S) (a0 : Int32) (a1 : Int32) (x0 : Int32) (x2 : Int32) (S : jS) (hE : f_X3_addParts_41  g k49 a0 a1 x0 x2 S = some z) : jJ X (jMain D ad cy) 41 [(0, .int x0), (2, .int x2)] [.int a0, .int a1] S := by
  unfold f_X3_addParts_41 at hE
  refine j_iadd C dX3_addParts_41 ?_
  refine j_istore_n (i := 1) (lv' := [(1, .int (a1 + a0)), (0, .int x0), (2, .int x2)]) C dX3_addParts_42 rfl (by decide) rfl ?_
  refine j_sub [1, 0, 2] rfl ?_
  exact p_X3_addParts_43 C Q hg hk49 x0 (a1 + a0) x2 S hE
set_option maxRecDepth 100000 in
theorem p_X3_addParts_4 {X : jX} {D : va_G} {ad : Nat → Nat} {cy : Nat → ClassId} (C : jC X (jMain D ad cy) RX3 cX3_addParts (some .int) 4 0 0) {z : Int32 × jS} (Q : jRet X (jMain D ad cy) (some (.int z.1), z.2)) {g : Int32 → Int32 → Int32 → jS → Option (Int32 × jS)} (hg : ∀ (x0 : Int32) (x1 : Int32) (x2 : Int32) (S : jS), g x0 x1 x2 S = some z → jJ X (jMain D ad cy) 4 [(0, .int x0), (1, .int x1), (2, .int x2)] [] S) {k49 : Int32 → jS → Option (Int32 × jS)} (hk49 : ∀ (x1 : Int32) (S : jS), k49 x1 S = some z → jJ X (jMain D ad cy) 49 [(1, .int x1)] [] S) (x0 : Int32) (x1 : Int32) (x2 : Int32) (S : jS) (hE : f_X3_addParts_4  g k49 x0 x1 x2 S = some z) : jJ X (jMain D ad cy) 4 [(0, .int x0), (1, .int x1), (2, .int x2)] [] S := by
  unfold f_X3_addParts_4 at hE
  refine j_iload_n C dX3_addParts_4 2 rfl ?_
  refine j_sipush (v := 9999) C dX3_addParts_5 jc_sp_9999 ?_
  refine j_icmp_gt (tgt := 49) C dX3_addParts_8 rfl hE (fun hE => ?_) (fun hE => ?_)
  · refine j_sub [1] rfl ?_
    exact hk49 x1 S hE
  · refine j_iload_n C dX3_addParts_11 2 rfl ?_
    refine j_iload_n C dX3_addParts_12 2 rfl ?_
    refine j_imul C dX3_addParts_13 ?_
    refine j_iload_n C dX3_addParts_14 0 rfl ?_
    refine j_icmp_gt (tgt := 49) C dX3_addParts_15 rfl hE (fun hE => ?_) (fun hE => ?_)
    · refine j_sub [1] rfl ?_
      exact hk49 x1 S hE
    · refine j_iload_n C dX3_addParts_18 0 rfl ?_
      refine j_iload_n C dX3_addParts_19 2 rfl ?_
      refine j_irem C dX3_addParts_20 hE (fun v1 hE => ?_)
      refine j_if_ne (tgt := 43) C dX3_addParts_21 rfl hE (fun hE => ?_) (fun hE => ?_)
      · exact p_X3_addParts_43 C Q hg hk49 x0 x1 x2 S hE
      · refine j_iload_n C dX3_addParts_24 0 rfl ?_
        refine j_iload_n C dX3_addParts_25 2 rfl ?_
        refine j_idiv C dX3_addParts_26 hE (fun v2 hE => ?_)
        refine j_istore_n (i := 3) (lv' := [(3, .int v2), (0, .int x0), (1, .int x1), (2, .int x2)]) C dX3_addParts_27 rfl (by decide) rfl ?_
        refine j_iload_n C dX3_addParts_28 2 rfl ?_
        refine j_iload_n C dX3_addParts_29 0 rfl ?_
        refine j_iload_n C dX3_addParts_30 3 rfl ?_
        refine j_icmp_ne (tgt := 38) C dX3_addParts_31 rfl hE (fun hE => ?_) (fun hE => ?_)
        · refine j_iload_n C dX3_addParts_38 3 rfl ?_
          refine j_iload_n C dX3_addParts_39 0 rfl ?_
          refine j_iadd C dX3_addParts_40 ?_
          refine j_sub [1, 3] rfl ?_
          exact p_X3_addParts_41 C Q hg hk49 (x2 + v2) x1 x0 x2 S hE
        · refine j_iload_n C dX3_addParts_34 3 rfl ?_
          refine j_goto (tgt := 41) C dX3_addParts_35 rfl ?_
          refine j_sub [1, 3] rfl ?_
          exact p_X3_addParts_41 C Q hg hk49 x2 x1 x0 x2 S hE
theorem q_X3_addParts_4 {X : jX} {D : va_G} {ad : Nat → Nat} {cy : Nat → ClassId} (C : jC X (jMain D ad cy) RX3 cX3_addParts (some .int) 4 0 0) {z : Int32 × jS} (Q : jRet X (jMain D ad cy) (some (.int z.1), z.2)) {k49 : Int32 → jS → Option (Int32 × jS)} (hk49 : ∀ (x1 : Int32) (S : jS), k49 x1 S = some z → jJ X (jMain D ad cy) 49 [(1, .int x1)] [] S) (x0 : Int32) (x1 : Int32) (x2 : Int32) (S : jS) (hE : lp_X3_addParts_4  k49 x0 x1 x2 S = some z) : jJ X (jMain D ad cy) 4 [(0, .int x0), (1, .int x1), (2, .int x2)] [] S :=
  jloop_P (α := Int32 × Int32 × Int32 × jS) (B := (fun g q => f_X3_addParts_4  (fun x0 x1 x2 S => g (x0, x1, x2, S)) k49 q.1 q.2.1 q.2.2.1 q.2.2.2)) (P := fun q => jJ X (jMain D ad cy) 4 [(0, .int q.1), (1, .int q.2.1), (2, .int q.2.2.1)] [] q.2.2.2) (fun g q hg h => p_X3_addParts_4 C Q (g := fun x0 x1 x2 S => g (x0, x1, x2, S)) (fun x0 x1 x2 S h => hg (x0, x1, x2, S) h) hk49 q.1 q.2.1 q.2.2.1 q.2.2.2 h) jN (x0, x1, x2, S) hE
set_option maxRecDepth 100000 in
theorem p_X3_addParts_49 {X : jX} {D : va_G} {ad : Nat → Nat} {cy : Nat → ClassId} (C : jC X (jMain D ad cy) RX3 cX3_addParts (some .int) 4 0 0) {z : Int32 × jS} (Q : jRet X (jMain D ad cy) (some (.int z.1), z.2))  (x1 : Int32) (S : jS) (hE : f_X3_addParts_49   x1 S = some z) : jJ X (jMain D ad cy) 49 [(1, .int x1)] [] S := by
  unfold f_X3_addParts_49 at hE
  refine j_iload_n C dX3_addParts_49 0 rfl ?_
  exact j_iret C Q dX3_addParts_50 hE
set_option maxRecDepth 100000 in
theorem p_X3_addParts_e {X : jX} {D : va_G} {ad : Nat → Nat} {cy : Nat → ClassId} (C : jC X (jMain D ad cy) RX3 cX3_addParts (some .int) 4 0 0) {z : Int32 × jS} (Q : jRet X (jMain D ad cy) (some (.int z.1), z.2))  (x0 : Int32) (S : jS) (hE : f_X3_addParts_e   x0 S = some z) : jJ X (jMain D ad cy) 0 [(0, .int x0)] [] S := by
  unfold f_X3_addParts_e at hE
  refine j_iconst (v := 1) C dX3_addParts_0 jc_ic_1 ?_
  refine j_istore_n (i := 1) (lv' := [(1, .int 1), (0, .int x0)]) C dX3_addParts_1 rfl (by decide) rfl ?_
  refine j_iconst (v := 2) C dX3_addParts_2 jc_ic_2 ?_
  refine j_istore_n (i := 2) (lv' := [(2, .int 2), (1, .int 1), (0, .int x0)]) C dX3_addParts_3 rfl (by decide) rfl ?_
  refine j_sub [2, 1, 0] rfl ?_
  exact q_X3_addParts_4 C Q (p_X3_addParts_49 C Q ) x0 1 2 S hE
theorem c_X3_addParts {l : Launch} {D : va_G} {ad : Nat → Nat} {cy : Nat → ClassId} (hO : jOk (jMain D ad cy)) (x0 : Int32) (S : jS) {z : Int32 × jS} (hz : f_X3_addParts x0 S = some z) : Met l yX3_addParts (.code yX3_addParts cX3_addParts 4 (some .int) :: jT) { frames := 0, cells := 0, slots := 0, locals := 0 } (va_Pc [.int x0] (jInv (jMain D ad cy) S)) (jQ (jMain D ad cy) (some (.int z.1), z.2)) 0 0 (yA (jMain D ad cy)) :=
  jMet hO (by decide +kernel) rfl (Nat.le_of_ble_eq_true rfl) (fun X _ C Q => p_X3_addParts_e C Q x0 S hz)
theorem k_X3_19_X3_addParts {X : jX} {D : va_G} {ad : Nat → Nat} {cy : Nat → ClassId} {cc : ByteArray} {ret : Option FieldType} {nL fr lo pc : Nat} {lv : List (Nat × Value)} {st : List Value} {S : jS} {β : Type} {z : β} (C : jC X (jMain D ad cy) RX3 cc ret nL fr lo) {a0 : Int32} {E : Int32 → jS → Option β} (d : decode cc pc = .ok (.invokestatic 19, 3)) (hE : jcl (f_X3_addParts a0 S) E = some z) (hfr : 1 ≤ fr) (hlo : 23 ≤ lo) (hst : (st.map fun v => v.category).sum ≤ 8) (K : ∀ (v : Int32) (S1 : jS), E v S1 = some z → jJ X (jMain D ad cy) (pc + 3) lv (.int v :: st) S1) : jJ X (jMain D ad cy) pc lv (.int a0 :: st) S := by
  obtain ⟨v, h1, h2⟩ := jcl_some hE
  exact j_callS (n := 1) (As := [.int a0]) C (c_X3_addParts C.2.2.2.2.2.2.1 a0 S h1) tw_525 tw_526 tw_70 tw_527 (by decide +kernel) rfl hfr hlo hst rfl d (K _ _ h2)
set_option maxRecDepth 100000 in
theorem p_X3_partsOf_27 {X : jX} {D : va_G} {ad : Nat → Nat} {cy : Nat → ClassId} (C : jC X (jMain D ad cy) RX3 cX3_partsOf (some .int) 2 1 23) {z : Int32 × jS} (Q : jRet X (jMain D ad cy) (some (.int z.1), z.2))  (a0 : Int32) (S : jS) (hE : f_X3_partsOf_27   a0 S = some z) : jJ X (jMain D ad cy) 27 [] [.int a0] S := by
  unfold f_X3_partsOf_27 at hE
  exact j_iret C Q dX3_partsOf_27 hE
set_option maxRecDepth 100000 in
theorem p_X3_partsOf_e {X : jX} {D : va_G} {ad : Nat → Nat} {cy : Nat → ClassId} (C : jC X (jMain D ad cy) RX3 cX3_partsOf (some .int) 2 1 23) {z : Int32 × jS} (Q : jRet X (jMain D ad cy) (some (.int z.1), z.2))  (x1 : Int32) (S : jS) (hE : f_X3_partsOf_e   x1 S = some z) : jJ X (jMain D ad cy) 0 [(0, .ref (ad 1)), (1, .int x1)] [] S := by
  unfold f_X3_partsOf_e at hE
  refine j_iload_n C dX3_partsOf_0 1 rfl ?_
  refine j_iconst (v := 1) C dX3_partsOf_1 jc_ic_1 ?_
  refine j_icmp_ge (tgt := 7) C dX3_partsOf_2 rfl hE (fun hE => ?_) (fun hE => ?_)
  · refine j_iload_n C dX3_partsOf_7 1 rfl ?_
    refine j_sipush (v := 300) C dX3_partsOf_8 jc_sp_300 ?_
    refine j_icmp_gt (tgt := 23) C dX3_partsOf_11 rfl hE (fun hE => ?_) (fun hE => ?_)
    · refine j_iload_n C dX3_partsOf_23 1 rfl ?_
      refine k_X3_19_X3_addParts C dX3_partsOf_24 hE (Nat.le_of_ble_eq_true rfl) (Nat.le_of_ble_eq_true rfl) (Nat.le_of_ble_eq_true rfl) (fun v2 S1 hE => ?_)
      refine j_sub [] rfl ?_
      exact p_X3_partsOf_27 C Q  v2 S1 hE
    · refine j_aload_n C dX3_partsOf_14 0 rfl ?_
      refine g_X3_9_1 C dX3_partsOf_15 ?_
      refine j_iload_n C dX3_partsOf_18 1 rfl ?_
      refine l_2 C dX3_partsOf_19 hE (fun v3 hE => ?_)
      refine j_goto (tgt := 27) C dX3_partsOf_20 rfl ?_
      refine j_sub [] rfl ?_
      exact p_X3_partsOf_27 C Q  v3 S hE
  · refine j_iconst (v := 0) C dX3_partsOf_5 jc_ic_0 ?_
    exact j_iret C Q dX3_partsOf_6 hE
theorem c_X3_partsOf {l : Launch} {D : va_G} {ad : Nat → Nat} {cy : Nat → ClassId} (hO : jOk (jMain D ad cy)) (x1 : Int32) (S : jS) {z : Int32 × jS} (hz : f_X3_partsOf x1 S = some z) : Met l yX3_partsOf (.code yX3_partsOf cX3_partsOf 2 (some .int) :: jT) { frames := 1, cells := 0, slots := 0, locals := 23 } (va_Pc [.ref (ad 1), .int x1] (jInv (jMain D ad cy) S)) (jQ (jMain D ad cy) (some (.int z.1), z.2)) 0 0 (yA (jMain D ad cy)) :=
  jMet hO (by decide +kernel) rfl (Nat.le_of_ble_eq_true rfl) (fun X _ C Q => p_X3_partsOf_e C Q x1 S hz)
theorem k_X11_132_X3_partsOf {X : jX} {D : va_G} {ad : Nat → Nat} {cy : Nat → ClassId} {cc : ByteArray} {ret : Option FieldType} {nL fr lo pc : Nat} {lv : List (Nat × Value)} {st : List Value} {S : jS} {β : Type} {z : β} (C : jC X (jMain D ad cy) RX11 cc ret nL fr lo) {a0 : Int32} {E : Int32 → jS → Option β} (d : decode cc pc = .ok (.invokevirtual 132, 3)) (hE : jcl (f_X3_partsOf a0 S) E = some z) (hfr : 2 ≤ fr) (hlo : 44 ≤ lo) (hst : (st.map fun v => v.category).sum ≤ 8) (K : ∀ (v : Int32) (S1 : jS), E v S1 = some z → jJ X (jMain D ad cy) (pc + 3) lv (.int v :: st) S1) : jJ X (jMain D ad cy) pc lv (.int a0 :: .ref (ad 1) :: st) S := by
  obtain ⟨v, h1, h2⟩ := jcl_some hE
  exact j_callV (k := 1) (ci := 3) (T := TX3) (N := 2) (n := 1) (As := [.int a0]) C (c_X3_partsOf C.2.2.2.2.2.2.1 a0 S h1) tw_521 tw_522 tw_523 tw_70 tw_524 (by decide +kernel) rfl (by decide : 1 < 56) rfl rfl hfr hlo hst rfl d (K _ _ h2)
set_option maxRecDepth 100000 in
theorem p_X3_isPrime_28 {X : jX} {D : va_G} {ad : Nat → Nat} {cy : Nat → ClassId} (C : jC X (jMain D ad cy) RX3 cX3_isPrime (some .boolean) 2 0 0) {z : Int32 × jS} (Q : jRet X (jMain D ad cy) (some (.int z.1), z.2))  (a0 : Int32) (S : jS) (hE : f_X3_isPrime_28   a0 S = some z) : jJ X (jMain D ad cy) 28 [] [.int a0] S := by
  unfold f_X3_isPrime_28 at hE
  exact j_zret C Q dX3_isPrime_28 hE
set_option maxRecDepth 100000 in
theorem p_X3_isPrime_27 {X : jX} {D : va_G} {ad : Nat → Nat} {cy : Nat → ClassId} (C : jC X (jMain D ad cy) RX3 cX3_isPrime (some .boolean) 2 0 0) {z : Int32 × jS} (Q : jRet X (jMain D ad cy) (some (.int z.1), z.2))   (S : jS) (hE : f_X3_isPrime_27    S = some z) : jJ X (jMain D ad cy) 27 [] [] S := by
  unfold f_X3_isPrime_27 at hE
  refine j_iconst (v := 0) C dX3_isPrime_27 jc_ic_0 ?_
  exact p_X3_isPrime_28 C Q  0 S hE
set_option maxRecDepth 100000 in
theorem p_X3_isPrime_e {X : jX} {D : va_G} {ad : Nat → Nat} {cy : Nat → ClassId} (C : jC X (jMain D ad cy) RX3 cX3_isPrime (some .boolean) 2 0 0) {z : Int32 × jS} (Q : jRet X (jMain D ad cy) (some (.int z.1), z.2))  (x1 : Int32) (S : jS) (hE : f_X3_isPrime_e   x1 S = some z) : jJ X (jMain D ad cy) 0 [(0, .ref (ad 1)), (1, .int x1)] [] S := by
  unfold f_X3_isPrime_e at hE
  refine j_iload_n C dX3_isPrime_0 1 rfl ?_
  refine j_if_le (tgt := 27) C dX3_isPrime_1 rfl hE (fun hE => ?_) (fun hE => ?_)
  · refine j_sub [] rfl ?_
    exact p_X3_isPrime_27 C Q   S hE
  · refine j_iload_n C dX3_isPrime_4 1 rfl ?_
    refine j_aload_n C dX3_isPrime_5 0 rfl ?_
    refine g_X3_9_1 C dX3_isPrime_6 ?_
    refine n_2 C dX3_isPrime_9 ?_
    refine j_icmp_ge (tgt := 27) C dX3_isPrime_10 rfl hE (fun hE => ?_) (fun hE => ?_)
    · refine j_sub [] rfl ?_
      exact p_X3_isPrime_27 C Q   S hE
    · refine j_aload_n C dX3_isPrime_13 0 rfl ?_
      refine g_X3_9_1 C dX3_isPrime_14 ?_
      refine j_iload_n C dX3_isPrime_17 1 rfl ?_
      refine l_2 C dX3_isPrime_18 hE (fun v1 hE => ?_)
      refine j_iconst (v := 1) C dX3_isPrime_19 jc_ic_1 ?_
      refine j_icmp_ne (tgt := 27) C dX3_isPrime_20 rfl hE (fun hE => ?_) (fun hE => ?_)
      · refine j_sub [] rfl ?_
        exact p_X3_isPrime_27 C Q   S hE
      · refine j_iconst (v := 1) C dX3_isPrime_23 jc_ic_1 ?_
        refine j_goto (tgt := 28) C dX3_isPrime_24 rfl ?_
        refine j_sub [] rfl ?_
        exact p_X3_isPrime_28 C Q  1 S hE
theorem c_X3_isPrime {l : Launch} {D : va_G} {ad : Nat → Nat} {cy : Nat → ClassId} (hO : jOk (jMain D ad cy)) (x1 : Int32) (S : jS) {z : Int32 × jS} (hz : f_X3_isPrime x1 S = some z) : Met l yX3_isPrime (.code yX3_isPrime cX3_isPrime 2 (some .boolean) :: jT) { frames := 0, cells := 0, slots := 0, locals := 0 } (va_Pc [.ref (ad 1), .int x1] (jInv (jMain D ad cy) S)) (jQ (jMain D ad cy) (some (.int z.1), z.2)) 0 0 (yA (jMain D ad cy)) :=
  jMet hO (by decide +kernel) rfl (Nat.le_of_ble_eq_true rfl) (fun X _ C Q => p_X3_isPrime_e C Q x1 S hz)
theorem k_X11_136_X3_isPrime {X : jX} {D : va_G} {ad : Nat → Nat} {cy : Nat → ClassId} {cc : ByteArray} {ret : Option FieldType} {nL fr lo pc : Nat} {lv : List (Nat × Value)} {st : List Value} {S : jS} {β : Type} {z : β} (C : jC X (jMain D ad cy) RX11 cc ret nL fr lo) {a0 : Int32} {E : Int32 → jS → Option β} (d : decode cc pc = .ok (.invokevirtual 136, 3)) (hE : jcl (f_X3_isPrime a0 S) E = some z) (hfr : 1 ≤ fr) (hlo : 21 ≤ lo) (hst : (st.map fun v => v.category).sum ≤ 8) (K : ∀ (v : Int32) (S1 : jS), E v S1 = some z → jJ X (jMain D ad cy) (pc + 3) lv (.int v :: st) S1) : jJ X (jMain D ad cy) pc lv (.int a0 :: .ref (ad 1) :: st) S := by
  obtain ⟨v, h1, h2⟩ := jcl_some hE
  exact j_callV (k := 1) (ci := 3) (T := TX3) (N := 2) (n := 1) (As := [.int a0]) C (c_X3_isPrime C.2.2.2.2.2.2.1 a0 S h1) tw_528 tw_529 tw_530 tw_70 tw_531 (by decide +kernel) rfl (by decide : 1 < 56) rfl rfl hfr hlo hst rfl d (K _ _ h2)
theorem k_X6_13_X3_isPrime {X : jX} {D : va_G} {ad : Nat → Nat} {cy : Nat → ClassId} {cc : ByteArray} {ret : Option FieldType} {nL fr lo pc : Nat} {lv : List (Nat × Value)} {st : List Value} {S : jS} {β : Type} {z : β} (C : jC X (jMain D ad cy) RX6 cc ret nL fr lo) {a0 : Int32} {E : Int32 → jS → Option β} (d : decode cc pc = .ok (.invokevirtual 13, 3)) (hE : jcl (f_X3_isPrime a0 S) E = some z) (hfr : 1 ≤ fr) (hlo : 21 ≤ lo) (hst : (st.map fun v => v.category).sum ≤ 8) (K : ∀ (v : Int32) (S1 : jS), E v S1 = some z → jJ X (jMain D ad cy) (pc + 3) lv (.int v :: st) S1) : jJ X (jMain D ad cy) pc lv (.int a0 :: .ref (ad 1) :: st) S := by
  obtain ⟨v, h1, h2⟩ := jcl_some hE
  exact j_callV (k := 1) (ci := 3) (T := TX3) (N := 2) (n := 1) (As := [.int a0]) C (c_X3_isPrime C.2.2.2.2.2.2.1 a0 S h1) tw_561 tw_529 tw_530 tw_70 tw_531 (by decide +kernel) rfl (by decide : 1 < 56) rfl rfl hfr hlo hst rfl d (K _ _ h2)
set_option maxRecDepth 100000 in
theorem p_X11_bit_9 {X : jX} {D : va_G} {ad : Nat → Nat} {cy : Nat → ClassId} (C : jC X (jMain D ad cy) RX11 cX11_bit (some .int) 1 0 0) {z : Int32 × jS} (Q : jRet X (jMain D ad cy) (some (.int z.1), z.2))  (a0 : Int32) (S : jS) (hE : f_X11_bit_9   a0 S = some z) : jJ X (jMain D ad cy) 9 [] [.int a0] S := by
  unfold f_X11_bit_9 at hE
  exact j_iret C Q dX11_bit_9 hE
set_option maxRecDepth 100000 in
theorem p_X11_bit_e {X : jX} {D : va_G} {ad : Nat → Nat} {cy : Nat → ClassId} (C : jC X (jMain D ad cy) RX11 cX11_bit (some .int) 1 0 0) {z : Int32 × jS} (Q : jRet X (jMain D ad cy) (some (.int z.1), z.2))  (x0 : Int32) (S : jS) (hE : f_X11_bit_e   x0 S = some z) : jJ X (jMain D ad cy) 0 [(0, .int x0)] [] S := by
  unfold f_X11_bit_e at hE
  refine j_iload_n C dX11_bit_0 0 rfl ?_
  refine j_if_eq (tgt := 8) C dX11_bit_1 rfl hE (fun hE => ?_) (fun hE => ?_)
  · refine j_iconst (v := 0) C dX11_bit_8 jc_ic_0 ?_
    refine j_sub [] rfl ?_
    exact p_X11_bit_9 C Q  0 S hE
  · refine j_iconst (v := 1) C dX11_bit_4 jc_ic_1 ?_
    refine j_goto (tgt := 9) C dX11_bit_5 rfl ?_
    refine j_sub [] rfl ?_
    exact p_X11_bit_9 C Q  1 S hE
theorem c_X11_bit {l : Launch} {D : va_G} {ad : Nat → Nat} {cy : Nat → ClassId} (hO : jOk (jMain D ad cy)) (x0 : Int32) (S : jS) {z : Int32 × jS} (hz : f_X11_bit x0 S = some z) : Met l yX11_bit (.code yX11_bit cX11_bit 1 (some .int) :: jT) { frames := 0, cells := 0, slots := 0, locals := 0 } (va_Pc [.int x0] (jInv (jMain D ad cy) S)) (jQ (jMain D ad cy) (some (.int z.1), z.2)) 0 0 (yA (jMain D ad cy)) :=
  jMet hO (by decide +kernel) rfl (Nat.le_of_ble_eq_true rfl) (fun X _ C Q => p_X11_bit_e C Q x0 S hz)
theorem k_X11_139_X11_bit {X : jX} {D : va_G} {ad : Nat → Nat} {cy : Nat → ClassId} {cc : ByteArray} {ret : Option FieldType} {nL fr lo pc : Nat} {lv : List (Nat × Value)} {st : List Value} {S : jS} {β : Type} {z : β} (C : jC X (jMain D ad cy) RX11 cc ret nL fr lo) {a0 : Int32} {E : Int32 → jS → Option β} (d : decode cc pc = .ok (.invokestatic 139, 3)) (hE : jcl (f_X11_bit a0 S) E = some z) (hfr : 1 ≤ fr) (hlo : 20 ≤ lo) (hst : (st.map fun v => v.category).sum ≤ 8) (K : ∀ (v : Int32) (S1 : jS), E v S1 = some z → jJ X (jMain D ad cy) (pc + 3) lv (.int v :: st) S1) : jJ X (jMain D ad cy) pc lv (.int a0 :: st) S := by
  obtain ⟨v, h1, h2⟩ := jcl_some hE
  exact j_callS (n := 1) (As := [.int a0]) C (c_X11_bit C.2.2.2.2.2.2.1 a0 S h1) tw_532 tw_533 tw_69 tw_534 (by decide +kernel) rfl hfr hlo hst rfl d (K _ _ h2)
set_option maxRecDepth 100000 in
theorem p_X3_isSquare_27 {X : jX} {D : va_G} {ad : Nat → Nat} {cy : Nat → ClassId} (C : jC X (jMain D ad cy) RX3 cX3_isSquare (some .boolean) 2 0 0) {z : Int32 × jS} (Q : jRet X (jMain D ad cy) (some (.int z.1), z.2))  (a0 : Int32) (S : jS) (hE : f_X3_isSquare_27   a0 S = some z) : jJ X (jMain D ad cy) 27 [] [.int a0] S := by
  unfold f_X3_isSquare_27 at hE
  exact j_zret C Q dX3_isSquare_27 hE
set_option maxRecDepth 100000 in
theorem p_X3_isSquare_26 {X : jX} {D : va_G} {ad : Nat → Nat} {cy : Nat → ClassId} (C : jC X (jMain D ad cy) RX3 cX3_isSquare (some .boolean) 2 0 0) {z : Int32 × jS} (Q : jRet X (jMain D ad cy) (some (.int z.1), z.2))   (S : jS) (hE : f_X3_isSquare_26    S = some z) : jJ X (jMain D ad cy) 26 [] [] S := by
  unfold f_X3_isSquare_26 at hE
  refine j_iconst (v := 0) C dX3_isSquare_26 jc_ic_0 ?_
  exact p_X3_isSquare_27 C Q  0 S hE
set_option maxRecDepth 100000 in
theorem p_X3_isSquare_e {X : jX} {D : va_G} {ad : Nat → Nat} {cy : Nat → ClassId} (C : jC X (jMain D ad cy) RX3 cX3_isSquare (some .boolean) 2 0 0) {z : Int32 × jS} (Q : jRet X (jMain D ad cy) (some (.int z.1), z.2))  (x1 : Int32) (S : jS) (hE : f_X3_isSquare_e   x1 S = some z) : jJ X (jMain D ad cy) 0 [(0, .ref (ad 1)), (1, .int x1)] [] S := by
  unfold f_X3_isSquare_e at hE
  refine j_iload_n C dX3_isSquare_0 1 rfl ?_
  refine j_if_le (tgt := 26) C dX3_isSquare_1 rfl hE (fun hE => ?_) (fun hE => ?_)
  · refine j_sub [] rfl ?_
    exact p_X3_isSquare_26 C Q   S hE
  · refine j_iload_n C dX3_isSquare_4 1 rfl ?_
    refine j_aload_n C dX3_isSquare_5 0 rfl ?_
    refine g_X3_15_1 C dX3_isSquare_6 ?_
    refine n_3 C dX3_isSquare_9 ?_
    refine j_icmp_ge (tgt := 26) C dX3_isSquare_10 rfl hE (fun hE => ?_) (fun hE => ?_)
    · refine j_sub [] rfl ?_
      exact p_X3_isSquare_26 C Q   S hE
    · refine j_aload_n C dX3_isSquare_13 0 rfl ?_
      refine g_X3_15_1 C dX3_isSquare_14 ?_
      refine j_iload_n C dX3_isSquare_17 1 rfl ?_
      refine l_3 C dX3_isSquare_18 hE (fun v1 hE => ?_)
      refine j_if_eq (tgt := 26) C dX3_isSquare_19 rfl hE (fun hE => ?_) (fun hE => ?_)
      · refine j_sub [] rfl ?_
        exact p_X3_isSquare_26 C Q   S hE
      · refine j_iconst (v := 1) C dX3_isSquare_22 jc_ic_1 ?_
        refine j_goto (tgt := 27) C dX3_isSquare_23 rfl ?_
        refine j_sub [] rfl ?_
        exact p_X3_isSquare_27 C Q  1 S hE
theorem c_X3_isSquare {l : Launch} {D : va_G} {ad : Nat → Nat} {cy : Nat → ClassId} (hO : jOk (jMain D ad cy)) (x1 : Int32) (S : jS) {z : Int32 × jS} (hz : f_X3_isSquare x1 S = some z) : Met l yX3_isSquare (.code yX3_isSquare cX3_isSquare 2 (some .boolean) :: jT) { frames := 0, cells := 0, slots := 0, locals := 0 } (va_Pc [.ref (ad 1), .int x1] (jInv (jMain D ad cy) S)) (jQ (jMain D ad cy) (some (.int z.1), z.2)) 0 0 (yA (jMain D ad cy)) :=
  jMet hO (by decide +kernel) rfl (Nat.le_of_ble_eq_true rfl) (fun X _ C Q => p_X3_isSquare_e C Q x1 S hz)
theorem k_X11_143_X3_isSquare {X : jX} {D : va_G} {ad : Nat → Nat} {cy : Nat → ClassId} {cc : ByteArray} {ret : Option FieldType} {nL fr lo pc : Nat} {lv : List (Nat × Value)} {st : List Value} {S : jS} {β : Type} {z : β} (C : jC X (jMain D ad cy) RX11 cc ret nL fr lo) {a0 : Int32} {E : Int32 → jS → Option β} (d : decode cc pc = .ok (.invokevirtual 143, 3)) (hE : jcl (f_X3_isSquare a0 S) E = some z) (hfr : 1 ≤ fr) (hlo : 21 ≤ lo) (hst : (st.map fun v => v.category).sum ≤ 8) (K : ∀ (v : Int32) (S1 : jS), E v S1 = some z → jJ X (jMain D ad cy) (pc + 3) lv (.int v :: st) S1) : jJ X (jMain D ad cy) pc lv (.int a0 :: .ref (ad 1) :: st) S := by
  obtain ⟨v, h1, h2⟩ := jcl_some hE
  exact j_callV (k := 1) (ci := 3) (T := TX3) (N := 2) (n := 1) (As := [.int a0]) C (c_X3_isSquare C.2.2.2.2.2.2.1 a0 S h1) tw_535 tw_536 tw_537 tw_70 tw_538 (by decide +kernel) rfl (by decide : 1 < 56) rfl rfl hfr hlo hst rfl d (K _ _ h2)
theorem k_X9_17_X3_isSquare {X : jX} {D : va_G} {ad : Nat → Nat} {cy : Nat → ClassId} {cc : ByteArray} {ret : Option FieldType} {nL fr lo pc : Nat} {lv : List (Nat × Value)} {st : List Value} {S : jS} {β : Type} {z : β} (C : jC X (jMain D ad cy) RX9 cc ret nL fr lo) {a0 : Int32} {E : Int32 → jS → Option β} (d : decode cc pc = .ok (.invokevirtual 17, 3)) (hE : jcl (f_X3_isSquare a0 S) E = some z) (hfr : 1 ≤ fr) (hlo : 21 ≤ lo) (hst : (st.map fun v => v.category).sum ≤ 8) (K : ∀ (v : Int32) (S1 : jS), E v S1 = some z → jJ X (jMain D ad cy) (pc + 3) lv (.int v :: st) S1) : jJ X (jMain D ad cy) pc lv (.int a0 :: .ref (ad 1) :: st) S := by
  obtain ⟨v, h1, h2⟩ := jcl_some hE
  exact j_callV (k := 1) (ci := 3) (T := TX3) (N := 2) (n := 1) (As := [.int a0]) C (c_X3_isSquare C.2.2.2.2.2.2.1 a0 S h1) tw_582 tw_536 tw_537 tw_70 tw_538 (by decide +kernel) rfl (by decide : 1 < 56) rfl rfl hfr hlo hst rfl d (K _ _ h2)
set_option maxRecDepth 100000 in
theorem p_X5_lets_50 {X : jX} {D : va_G} {ad : Nat → Nat} {cy : Nat → ClassId} (C : jC X (jMain D ad cy) RX5 cX5_lets (some .boolean) 6 0 0) {z : Int32 × jS} (Q : jRet X (jMain D ad cy) (some (.int z.1), z.2))  (a0 : Int32) (S : jS) (hE : f_X5_lets_50   a0 S = some z) : jJ X (jMain D ad cy) 50 [] [.int a0] S := by
  unfold f_X5_lets_50 at hE
  exact j_zret C Q dX5_lets_50 hE
set_option maxRecDepth 100000 in
theorem p_X5_lets_45 {X : jX} {D : va_G} {ad : Nat → Nat} {cy : Nat → ClassId} (C : jC X (jMain D ad cy) RX5 cX5_lets (some .boolean) 6 0 0) {z : Int32 × jS} (Q : jRet X (jMain D ad cy) (some (.int z.1), z.2))   (S : jS) (hE : f_X5_lets_45    S = some z) : jJ X (jMain D ad cy) 45 [] [] S := by
  unfold f_X5_lets_45 at hE
  refine j_iconst (v := 1) C dX5_lets_45 jc_ic_1 ?_
  refine j_goto (tgt := 50) C dX5_lets_46 rfl ?_
  exact p_X5_lets_50 C Q  1 S hE
set_option maxRecDepth 100000 in
theorem p_X5_lets_22 {X : jX} {D : va_G} {ad : Nat → Nat} {cy : Nat → ClassId} (C : jC X (jMain D ad cy) RX5 cX5_lets (some .boolean) 6 0 0) {z : Int32 × jS} (Q : jRet X (jMain D ad cy) (some (.int z.1), z.2))  (a0 : Int32) (x4 : Int32) (S : jS) (hE : f_X5_lets_22   a0 x4 S = some z) : jJ X (jMain D ad cy) 22 [(4, .int x4)] [.int a0] S := by
  unfold f_X5_lets_22 at hE
  refine j_istore (lv' := [(5, .int a0), (4, .int x4)]) C dX5_lets_22 (by decide) rfl ?_
  refine j_iload C dX5_lets_24 1 rfl ?_
  refine j_iload C dX5_lets_26 0 rfl ?_
  refine j_icmp_eq (tgt := 45) C dX5_lets_28 rfl hE (fun hE => ?_) (fun hE => ?_)
  · refine j_sub [] rfl ?_
    exact p_X5_lets_45 C Q   S hE
  · refine j_iload C dX5_lets_31 1 rfl ?_
    refine j_iconst (v := 1) C dX5_lets_33 jc_ic_1 ?_
    refine j_icmp_lt (tgt := 45) C dX5_lets_34 rfl hE (fun hE => ?_) (fun hE => ?_)
    · refine j_sub [] rfl ?_
      exact p_X5_lets_45 C Q   S hE
    · refine j_iload C dX5_lets_37 0 rfl ?_
      refine j_iload C dX5_lets_39 1 rfl ?_
      refine j_irem C dX5_lets_41 hE (fun v1 hE => ?_)
      refine j_if_eq (tgt := 49) C dX5_lets_42 rfl hE (fun hE => ?_) (fun hE => ?_)
      · refine j_iconst (v := 0) C dX5_lets_49 jc_ic_0 ?_
        refine j_sub [] rfl ?_
        exact p_X5_lets_50 C Q  0 S hE
      · refine j_sub [] rfl ?_
        exact p_X5_lets_45 C Q   S hE
set_option maxRecDepth 100000 in
theorem p_X5_lets_10 {X : jX} {D : va_G} {ad : Nat → Nat} {cy : Nat → ClassId} (C : jC X (jMain D ad cy) RX5 cX5_lets (some .boolean) 6 0 0) {z : Int32 × jS} (Q : jRet X (jMain D ad cy) (some (.int z.1), z.2))  (a0 : Int32) (x1 : Int32) (x2 : Int32) (S : jS) (hE : f_X5_lets_10   a0 x1 x2 S = some z) : jJ X (jMain D ad cy) 10 [(1, .int x1), (2, .int x2)] [.int a0] S := by
  unfold f_X5_lets_10 at hE
  refine j_istore (lv' := [(4, .int a0), (1, .int x1), (2, .int x2)]) C dX5_lets_10 (by decide) rfl ?_
  refine j_iload_n C dX5_lets_12 1 rfl ?_
  refine j_iload_n C dX5_lets_13 2 rfl ?_
  refine j_icmp_ge (tgt := 21) C dX5_lets_14 rfl hE (fun hE => ?_) (fun hE => ?_)
  · refine j_iload_n C dX5_lets_21 1 rfl ?_
    refine j_sub [0] rfl ?_
    exact p_X5_lets_22 C Q  x1 a0 S hE
  · refine j_iload_n C dX5_lets_17 2 rfl ?_
    refine j_goto (tgt := 22) C dX5_lets_18 rfl ?_
    refine j_sub [0] rfl ?_
    exact p_X5_lets_22 C Q  x2 a0 S hE
set_option maxRecDepth 100000 in
theorem p_X5_lets_e {X : jX} {D : va_G} {ad : Nat → Nat} {cy : Nat → ClassId} (C : jC X (jMain D ad cy) RX5 cX5_lets (some .boolean) 6 0 0) {z : Int32 × jS} (Q : jRet X (jMain D ad cy) (some (.int z.1), z.2))  (x1 : Int32) (x2 : Int32) (x3 : Int32) (S : jS) (hE : f_X5_lets_e   x1 x2 x3 S = some z) : jJ X (jMain D ad cy) 0 [(0, .ref (ad 6)), (1, .int x1), (2, .int x2), (3, .int x3)] [] S := by
  unfold f_X5_lets_e at hE
  refine j_iload_n C dX5_lets_0 1 rfl ?_
  refine j_iload_n C dX5_lets_1 2 rfl ?_
  refine j_icmp_ge (tgt := 9) C dX5_lets_2 rfl hE (fun hE => ?_) (fun hE => ?_)
  · refine j_iload_n C dX5_lets_9 2 rfl ?_
    refine j_sub [1, 2] rfl ?_
    exact p_X5_lets_10 C Q  x2 x1 x2 S hE
  · refine j_iload_n C dX5_lets_5 1 rfl ?_
    refine j_goto (tgt := 10) C dX5_lets_6 rfl ?_
    refine j_sub [1, 2] rfl ?_
    exact p_X5_lets_10 C Q  x1 x1 x2 S hE
theorem c_X5_lets {l : Launch} {D : va_G} {ad : Nat → Nat} {cy : Nat → ClassId} (hO : jOk (jMain D ad cy)) (x1 : Int32) (x2 : Int32) (x3 : Int32) (S : jS) {z : Int32 × jS} (hz : f_X5_lets x1 x2 x3 S = some z) : Met l yX5_lets (.code yX5_lets cX5_lets 6 (some .boolean) :: jT) { frames := 0, cells := 0, slots := 0, locals := 0 } (va_Pc [.ref (ad 6), .int x1, .int x2, .int x3] (jInv (jMain D ad cy) S)) (jQ (jMain D ad cy) (some (.int z.1), z.2)) 0 0 (yA (jMain D ad cy)) :=
  jMet hO (by decide +kernel) rfl (Nat.le_of_ble_eq_true rfl) (fun X _ C Q => p_X5_lets_e C Q x1 x2 x3 S hz)
theorem k_X2_35_X5_lets {X : jX} {D : va_G} {ad : Nat → Nat} {cy : Nat → ClassId} {cc : ByteArray} {ret : Option FieldType} {nL fr lo pc : Nat} {lv : List (Nat × Value)} {st : List Value} {S : jS} {β : Type} {z : β} (C : jC X (jMain D ad cy) RX2 cc ret nL fr lo) {a0 : Int32} {a1 : Int32} {a2 : Int32} {E : Int32 → jS → Option β} (d : decode cc pc = .ok (.invokevirtual 35, 3)) (hE : jcl (f_X5_lets a0 a1 a2 S) E = some z) (hfr : 1 ≤ fr) (hlo : 25 ≤ lo) (hst : (st.map fun v => v.category).sum ≤ 8) (K : ∀ (v : Int32) (S1 : jS), E v S1 = some z → jJ X (jMain D ad cy) (pc + 3) lv (.int v :: st) S1) : jJ X (jMain D ad cy) pc lv (.int a2 :: .int a1 :: .int a0 :: .ref (ad 6) :: st) S := by
  obtain ⟨v, h1, h2⟩ := jcl_some hE
  exact j_callV (k := 6) (ci := 5) (T := TX5) (N := 1) (n := 3) (As := [.int a0, .int a1, .int a2]) C (c_X5_lets C.2.2.2.2.2.2.1 a0 a1 a2 S h1) tw_547 tw_548 tw_549 tw_72 tw_583 (by decide +kernel) rfl (by decide : 6 < 56) rfl rfl hfr hlo hst rfl d (K _ _ h2)
set_option maxRecDepth 100000 in
theorem p_X5_lets_r7_50 {X : jX} {D : va_G} {ad : Nat → Nat} {cy : Nat → ClassId} (C : jC X (jMain D ad cy) RX5 cX5_lets (some .boolean) 6 0 0) {z : Int32 × jS} (Q : jRet X (jMain D ad cy) (some (.int z.1), z.2))  (a0 : Int32) (S : jS) (hE : f_X5_lets_r7_50   a0 S = some z) : jJ X (jMain D ad cy) 50 [] [.int a0] S := by
  unfold f_X5_lets_r7_50 at hE
  exact j_zret C Q dX5_lets_50 hE
set_option maxRecDepth 100000 in
theorem p_X5_lets_r7_45 {X : jX} {D : va_G} {ad : Nat → Nat} {cy : Nat → ClassId} (C : jC X (jMain D ad cy) RX5 cX5_lets (some .boolean) 6 0 0) {z : Int32 × jS} (Q : jRet X (jMain D ad cy) (some (.int z.1), z.2))   (S : jS) (hE : f_X5_lets_r7_45    S = some z) : jJ X (jMain D ad cy) 45 [] [] S := by
  unfold f_X5_lets_r7_45 at hE
  refine j_iconst (v := 1) C dX5_lets_45 jc_ic_1 ?_
  refine j_goto (tgt := 50) C dX5_lets_46 rfl ?_
  exact p_X5_lets_r7_50 C Q  1 S hE
set_option maxRecDepth 100000 in
theorem p_X5_lets_r7_22 {X : jX} {D : va_G} {ad : Nat → Nat} {cy : Nat → ClassId} (C : jC X (jMain D ad cy) RX5 cX5_lets (some .boolean) 6 0 0) {z : Int32 × jS} (Q : jRet X (jMain D ad cy) (some (.int z.1), z.2))  (a0 : Int32) (x4 : Int32) (S : jS) (hE : f_X5_lets_r7_22   a0 x4 S = some z) : jJ X (jMain D ad cy) 22 [(4, .int x4)] [.int a0] S := by
  unfold f_X5_lets_r7_22 at hE
  refine j_istore (lv' := [(5, .int a0), (4, .int x4)]) C dX5_lets_22 (by decide) rfl ?_
  refine j_iload C dX5_lets_24 1 rfl ?_
  refine j_iload C dX5_lets_26 0 rfl ?_
  refine j_icmp_eq (tgt := 45) C dX5_lets_28 rfl hE (fun hE => ?_) (fun hE => ?_)
  · refine j_sub [] rfl ?_
    exact p_X5_lets_r7_45 C Q   S hE
  · refine j_iload C dX5_lets_31 1 rfl ?_
    refine j_iconst (v := 1) C dX5_lets_33 jc_ic_1 ?_
    refine j_icmp_lt (tgt := 45) C dX5_lets_34 rfl hE (fun hE => ?_) (fun hE => ?_)
    · refine j_sub [] rfl ?_
      exact p_X5_lets_r7_45 C Q   S hE
    · refine j_iload C dX5_lets_37 0 rfl ?_
      refine j_iload C dX5_lets_39 1 rfl ?_
      refine j_irem C dX5_lets_41 hE (fun v1 hE => ?_)
      refine j_if_eq (tgt := 49) C dX5_lets_42 rfl hE (fun hE => ?_) (fun hE => ?_)
      · refine j_iconst (v := 0) C dX5_lets_49 jc_ic_0 ?_
        refine j_sub [] rfl ?_
        exact p_X5_lets_r7_50 C Q  0 S hE
      · refine j_sub [] rfl ?_
        exact p_X5_lets_r7_45 C Q   S hE
set_option maxRecDepth 100000 in
theorem p_X5_lets_r7_10 {X : jX} {D : va_G} {ad : Nat → Nat} {cy : Nat → ClassId} (C : jC X (jMain D ad cy) RX5 cX5_lets (some .boolean) 6 0 0) {z : Int32 × jS} (Q : jRet X (jMain D ad cy) (some (.int z.1), z.2))  (a0 : Int32) (x1 : Int32) (x2 : Int32) (S : jS) (hE : f_X5_lets_r7_10   a0 x1 x2 S = some z) : jJ X (jMain D ad cy) 10 [(1, .int x1), (2, .int x2)] [.int a0] S := by
  unfold f_X5_lets_r7_10 at hE
  refine j_istore (lv' := [(4, .int a0), (1, .int x1), (2, .int x2)]) C dX5_lets_10 (by decide) rfl ?_
  refine j_iload_n C dX5_lets_12 1 rfl ?_
  refine j_iload_n C dX5_lets_13 2 rfl ?_
  refine j_icmp_ge (tgt := 21) C dX5_lets_14 rfl hE (fun hE => ?_) (fun hE => ?_)
  · refine j_iload_n C dX5_lets_21 1 rfl ?_
    refine j_sub [0] rfl ?_
    exact p_X5_lets_r7_22 C Q  x1 a0 S hE
  · refine j_iload_n C dX5_lets_17 2 rfl ?_
    refine j_goto (tgt := 22) C dX5_lets_18 rfl ?_
    refine j_sub [0] rfl ?_
    exact p_X5_lets_r7_22 C Q  x2 a0 S hE
set_option maxRecDepth 100000 in
theorem p_X5_lets_r7_e {X : jX} {D : va_G} {ad : Nat → Nat} {cy : Nat → ClassId} (C : jC X (jMain D ad cy) RX5 cX5_lets (some .boolean) 6 0 0) {z : Int32 × jS} (Q : jRet X (jMain D ad cy) (some (.int z.1), z.2))  (x1 : Int32) (x2 : Int32) (x3 : Int32) (S : jS) (hE : f_X5_lets_r7_e   x1 x2 x3 S = some z) : jJ X (jMain D ad cy) 0 [(0, .ref (ad 7)), (1, .int x1), (2, .int x2), (3, .int x3)] [] S := by
  unfold f_X5_lets_r7_e at hE
  refine j_iload_n C dX5_lets_0 1 rfl ?_
  refine j_iload_n C dX5_lets_1 2 rfl ?_
  refine j_icmp_ge (tgt := 9) C dX5_lets_2 rfl hE (fun hE => ?_) (fun hE => ?_)
  · refine j_iload_n C dX5_lets_9 2 rfl ?_
    refine j_sub [1, 2] rfl ?_
    exact p_X5_lets_r7_10 C Q  x2 x1 x2 S hE
  · refine j_iload_n C dX5_lets_5 1 rfl ?_
    refine j_goto (tgt := 10) C dX5_lets_6 rfl ?_
    refine j_sub [1, 2] rfl ?_
    exact p_X5_lets_r7_10 C Q  x1 x1 x2 S hE
theorem c_X5_lets_r7 {l : Launch} {D : va_G} {ad : Nat → Nat} {cy : Nat → ClassId} (hO : jOk (jMain D ad cy)) (x1 : Int32) (x2 : Int32) (x3 : Int32) (S : jS) {z : Int32 × jS} (hz : f_X5_lets_r7 x1 x2 x3 S = some z) : Met l yX5_lets (.code yX5_lets cX5_lets 6 (some .boolean) :: jT) { frames := 0, cells := 0, slots := 0, locals := 0 } (va_Pc [.ref (ad 7), .int x1, .int x2, .int x3] (jInv (jMain D ad cy) S)) (jQ (jMain D ad cy) (some (.int z.1), z.2)) 0 0 (yA (jMain D ad cy)) :=
  jMet hO (by decide +kernel) rfl (Nat.le_of_ble_eq_true rfl) (fun X _ C Q => p_X5_lets_r7_e C Q x1 x2 x3 S hz)
theorem k_X0_7_X5_lets_r7 {X : jX} {D : va_G} {ad : Nat → Nat} {cy : Nat → ClassId} {cc : ByteArray} {ret : Option FieldType} {nL fr lo pc : Nat} {lv : List (Nat × Value)} {st : List Value} {S : jS} {β : Type} {z : β} (C : jC X (jMain D ad cy) RX0 cc ret nL fr lo) {a0 : Int32} {a1 : Int32} {a2 : Int32} {E : Int32 → jS → Option β} (d : decode cc pc = .ok (.invokespecial 7, 3)) (hE : jcl (f_X5_lets_r7 a0 a1 a2 S) E = some z) (hfr : 1 ≤ fr) (hlo : 25 ≤ lo) (hst : (st.map fun v => v.category).sum ≤ 8) (K : ∀ (v : Int32) (S1 : jS), E v S1 = some z → jJ X (jMain D ad cy) (pc + 3) lv (.int v :: st) S1) : jJ X (jMain D ad cy) pc lv (.int a2 :: .int a1 :: .int a0 :: .ref (ad 7) :: st) S := by
  obtain ⟨v, h1, h2⟩ := jcl_some hE
  exact j_callSU (k := 7) (ci := 0) (T := TX0) (N := 1) (n := 3) (As := [.int a0, .int a1, .int a2]) C (c_X5_lets_r7 C.2.2.2.2.2.2.1 a0 a1 a2 S h1) tw_554 tw_550 tw_142 tw_548 tw_72 tw_583 (by decide +kernel) rfl (by decide : 7 < 56) rfl rfl hfr hlo hst rfl d (K _ _ h2)
set_option maxRecDepth 100000 in
theorem p_X0_lets_23 {X : jX} {D : va_G} {ad : Nat → Nat} {cy : Nat → ClassId} (C : jC X (jMain D ad cy) RX0 cX0_lets (some .boolean) 4 1 25) {z : Int32 × jS} (Q : jRet X (jMain D ad cy) (some (.int z.1), z.2))  (a0 : Int32) (S : jS) (hE : f_X0_lets_23   a0 S = some z) : jJ X (jMain D ad cy) 23 [] [.int a0] S := by
  unfold f_X0_lets_23 at hE
  exact j_zret C Q dX0_lets_23 hE
set_option maxRecDepth 100000 in
theorem p_X0_lets_22 {X : jX} {D : va_G} {ad : Nat → Nat} {cy : Nat → ClassId} (C : jC X (jMain D ad cy) RX0 cX0_lets (some .boolean) 4 1 25) {z : Int32 × jS} (Q : jRet X (jMain D ad cy) (some (.int z.1), z.2))   (S : jS) (hE : f_X0_lets_22    S = some z) : jJ X (jMain D ad cy) 22 [] [] S := by
  unfold f_X0_lets_22 at hE
  refine j_iconst (v := 0) C dX0_lets_22 jc_ic_0 ?_
  exact p_X0_lets_23 C Q  0 S hE
set_option maxRecDepth 100000 in
theorem p_X0_lets_e {X : jX} {D : va_G} {ad : Nat → Nat} {cy : Nat → ClassId} (C : jC X (jMain D ad cy) RX0 cX0_lets (some .boolean) 4 1 25) {z : Int32 × jS} (Q : jRet X (jMain D ad cy) (some (.int z.1), z.2))  (x1 : Int32) (x2 : Int32) (x3 : Int32) (S : jS) (hE : f_X0_lets_e   x1 x2 x3 S = some z) : jJ X (jMain D ad cy) 0 [(0, .ref (ad 7)), (1, .int x1), (2, .int x2), (3, .int x3)] [] S := by
  unfold f_X0_lets_e at hE
  refine j_iload_n C dX0_lets_0 1 rfl ?_
  refine j_iload_n C dX0_lets_1 2 rfl ?_
  refine j_iadd C dX0_lets_2 ?_
  refine j_iconst (v := 2) C dX0_lets_3 jc_ic_2 ?_
  refine j_irem C dX0_lets_4 hE (fun v1 hE => ?_)
  refine j_if_ne (tgt := 22) C dX0_lets_5 rfl hE (fun hE => ?_) (fun hE => ?_)
  · refine j_sub [] rfl ?_
    exact p_X0_lets_22 C Q   S hE
  · refine j_aload_n C dX0_lets_8 0 rfl ?_
    refine j_iload_n C dX0_lets_9 1 rfl ?_
    refine j_iload_n C dX0_lets_10 2 rfl ?_
    refine j_iload_n C dX0_lets_11 3 rfl ?_
    refine k_X0_7_X5_lets_r7 C dX0_lets_12 hE (Nat.le_of_ble_eq_true rfl) (Nat.le_of_ble_eq_true rfl) (Nat.le_of_ble_eq_true rfl) (fun v3 S2 hE => ?_)
    refine j_if_eq (tgt := 22) C dX0_lets_15 rfl hE (fun hE => ?_) (fun hE => ?_)
    · refine j_sub [] rfl ?_
      exact p_X0_lets_22 C Q   S2 hE
    · refine j_iconst (v := 1) C dX0_lets_18 jc_ic_1 ?_
      refine j_goto (tgt := 23) C dX0_lets_19 rfl ?_
      refine j_sub [] rfl ?_
      exact p_X0_lets_23 C Q  1 S2 hE
theorem c_X0_lets {l : Launch} {D : va_G} {ad : Nat → Nat} {cy : Nat → ClassId} (hO : jOk (jMain D ad cy)) (x1 : Int32) (x2 : Int32) (x3 : Int32) (S : jS) {z : Int32 × jS} (hz : f_X0_lets x1 x2 x3 S = some z) : Met l yX0_lets (.code yX0_lets cX0_lets 4 (some .boolean) :: jT) { frames := 1, cells := 0, slots := 0, locals := 25 } (va_Pc [.ref (ad 7), .int x1, .int x2, .int x3] (jInv (jMain D ad cy) S)) (jQ (jMain D ad cy) (some (.int z.1), z.2)) 0 0 (yA (jMain D ad cy)) :=
  jMet hO (by decide +kernel) rfl (Nat.le_of_ble_eq_true rfl) (fun X _ C Q => p_X0_lets_e C Q x1 x2 x3 S hz)
theorem k_X2_35_X0_lets {X : jX} {D : va_G} {ad : Nat → Nat} {cy : Nat → ClassId} {cc : ByteArray} {ret : Option FieldType} {nL fr lo pc : Nat} {lv : List (Nat × Value)} {st : List Value} {S : jS} {β : Type} {z : β} (C : jC X (jMain D ad cy) RX2 cc ret nL fr lo) {a0 : Int32} {a1 : Int32} {a2 : Int32} {E : Int32 → jS → Option β} (d : decode cc pc = .ok (.invokevirtual 35, 3)) (hE : jcl (f_X0_lets a0 a1 a2 S) E = some z) (hfr : 2 ≤ fr) (hlo : 48 ≤ lo) (hst : (st.map fun v => v.category).sum ≤ 8) (K : ∀ (v : Int32) (S1 : jS), E v S1 = some z → jJ X (jMain D ad cy) (pc + 3) lv (.int v :: st) S1) : jJ X (jMain D ad cy) pc lv (.int a2 :: .int a1 :: .int a0 :: .ref (ad 7) :: st) S := by
  obtain ⟨v, h1, h2⟩ := jcl_some hE
  exact j_callO (x := yX5_lets) (owner := "OddFridays$Plain") (k := 7) (ci := 0) (T := TX0) (N := 1) (n := 3) (As := [.int a0, .int a1, .int a2]) C (c_X0_lets C.2.2.2.2.2.2.1 a0 a1 a2 S h1) tw_547 tw_550 tw_548 tw_551 tw_552 tw_73 tw_553 tw_583 (by decide +kernel) rfl (by decide : 7 < 56) rfl rfl hfr hlo hst rfl d (K _ _ h2)
set_option maxRecDepth 100000 in
theorem p_X5_lets_r8_50 {X : jX} {D : va_G} {ad : Nat → Nat} {cy : Nat → ClassId} (C : jC X (jMain D ad cy) RX5 cX5_lets (some .boolean) 6 0 0) {z : Int32 × jS} (Q : jRet X (jMain D ad cy) (some (.int z.1), z.2))  (a0 : Int32) (S : jS) (hE : f_X5_lets_r8_50   a0 S = some z) : jJ X (jMain D ad cy) 50 [] [.int a0] S := by
  unfold f_X5_lets_r8_50 at hE
  exact j_zret C Q dX5_lets_50 hE
set_option maxRecDepth 100000 in
theorem p_X5_lets_r8_45 {X : jX} {D : va_G} {ad : Nat → Nat} {cy : Nat → ClassId} (C : jC X (jMain D ad cy) RX5 cX5_lets (some .boolean) 6 0 0) {z : Int32 × jS} (Q : jRet X (jMain D ad cy) (some (.int z.1), z.2))   (S : jS) (hE : f_X5_lets_r8_45    S = some z) : jJ X (jMain D ad cy) 45 [] [] S := by
  unfold f_X5_lets_r8_45 at hE
  refine j_iconst (v := 1) C dX5_lets_45 jc_ic_1 ?_
  refine j_goto (tgt := 50) C dX5_lets_46 rfl ?_
  exact p_X5_lets_r8_50 C Q  1 S hE
set_option maxRecDepth 100000 in
theorem p_X5_lets_r8_22 {X : jX} {D : va_G} {ad : Nat → Nat} {cy : Nat → ClassId} (C : jC X (jMain D ad cy) RX5 cX5_lets (some .boolean) 6 0 0) {z : Int32 × jS} (Q : jRet X (jMain D ad cy) (some (.int z.1), z.2))  (a0 : Int32) (x4 : Int32) (S : jS) (hE : f_X5_lets_r8_22   a0 x4 S = some z) : jJ X (jMain D ad cy) 22 [(4, .int x4)] [.int a0] S := by
  unfold f_X5_lets_r8_22 at hE
  refine j_istore (lv' := [(5, .int a0), (4, .int x4)]) C dX5_lets_22 (by decide) rfl ?_
  refine j_iload C dX5_lets_24 1 rfl ?_
  refine j_iload C dX5_lets_26 0 rfl ?_
  refine j_icmp_eq (tgt := 45) C dX5_lets_28 rfl hE (fun hE => ?_) (fun hE => ?_)
  · refine j_sub [] rfl ?_
    exact p_X5_lets_r8_45 C Q   S hE
  · refine j_iload C dX5_lets_31 1 rfl ?_
    refine j_iconst (v := 1) C dX5_lets_33 jc_ic_1 ?_
    refine j_icmp_lt (tgt := 45) C dX5_lets_34 rfl hE (fun hE => ?_) (fun hE => ?_)
    · refine j_sub [] rfl ?_
      exact p_X5_lets_r8_45 C Q   S hE
    · refine j_iload C dX5_lets_37 0 rfl ?_
      refine j_iload C dX5_lets_39 1 rfl ?_
      refine j_irem C dX5_lets_41 hE (fun v1 hE => ?_)
      refine j_if_eq (tgt := 49) C dX5_lets_42 rfl hE (fun hE => ?_) (fun hE => ?_)
      · refine j_iconst (v := 0) C dX5_lets_49 jc_ic_0 ?_
        refine j_sub [] rfl ?_
        exact p_X5_lets_r8_50 C Q  0 S hE
      · refine j_sub [] rfl ?_
        exact p_X5_lets_r8_45 C Q   S hE
set_option maxRecDepth 100000 in
theorem p_X5_lets_r8_10 {X : jX} {D : va_G} {ad : Nat → Nat} {cy : Nat → ClassId} (C : jC X (jMain D ad cy) RX5 cX5_lets (some .boolean) 6 0 0) {z : Int32 × jS} (Q : jRet X (jMain D ad cy) (some (.int z.1), z.2))  (a0 : Int32) (x1 : Int32) (x2 : Int32) (S : jS) (hE : f_X5_lets_r8_10   a0 x1 x2 S = some z) : jJ X (jMain D ad cy) 10 [(1, .int x1), (2, .int x2)] [.int a0] S := by
  unfold f_X5_lets_r8_10 at hE
  refine j_istore (lv' := [(4, .int a0), (1, .int x1), (2, .int x2)]) C dX5_lets_10 (by decide) rfl ?_
  refine j_iload_n C dX5_lets_12 1 rfl ?_
  refine j_iload_n C dX5_lets_13 2 rfl ?_
  refine j_icmp_ge (tgt := 21) C dX5_lets_14 rfl hE (fun hE => ?_) (fun hE => ?_)
  · refine j_iload_n C dX5_lets_21 1 rfl ?_
    refine j_sub [0] rfl ?_
    exact p_X5_lets_r8_22 C Q  x1 a0 S hE
  · refine j_iload_n C dX5_lets_17 2 rfl ?_
    refine j_goto (tgt := 22) C dX5_lets_18 rfl ?_
    refine j_sub [0] rfl ?_
    exact p_X5_lets_r8_22 C Q  x2 a0 S hE
set_option maxRecDepth 100000 in
theorem p_X5_lets_r8_e {X : jX} {D : va_G} {ad : Nat → Nat} {cy : Nat → ClassId} (C : jC X (jMain D ad cy) RX5 cX5_lets (some .boolean) 6 0 0) {z : Int32 × jS} (Q : jRet X (jMain D ad cy) (some (.int z.1), z.2))  (x1 : Int32) (x2 : Int32) (x3 : Int32) (S : jS) (hE : f_X5_lets_r8_e   x1 x2 x3 S = some z) : jJ X (jMain D ad cy) 0 [(0, .ref (ad 8)), (1, .int x1), (2, .int x2), (3, .int x3)] [] S := by
  unfold f_X5_lets_r8_e at hE
  refine j_iload_n C dX5_lets_0 1 rfl ?_
  refine j_iload_n C dX5_lets_1 2 rfl ?_
  refine j_icmp_ge (tgt := 9) C dX5_lets_2 rfl hE (fun hE => ?_) (fun hE => ?_)
  · refine j_iload_n C dX5_lets_9 2 rfl ?_
    refine j_sub [1, 2] rfl ?_
    exact p_X5_lets_r8_10 C Q  x2 x1 x2 S hE
  · refine j_iload_n C dX5_lets_5 1 rfl ?_
    refine j_goto (tgt := 10) C dX5_lets_6 rfl ?_
    refine j_sub [1, 2] rfl ?_
    exact p_X5_lets_r8_10 C Q  x1 x1 x2 S hE
theorem c_X5_lets_r8 {l : Launch} {D : va_G} {ad : Nat → Nat} {cy : Nat → ClassId} (hO : jOk (jMain D ad cy)) (x1 : Int32) (x2 : Int32) (x3 : Int32) (S : jS) {z : Int32 × jS} (hz : f_X5_lets_r8 x1 x2 x3 S = some z) : Met l yX5_lets (.code yX5_lets cX5_lets 6 (some .boolean) :: jT) { frames := 0, cells := 0, slots := 0, locals := 0 } (va_Pc [.ref (ad 8), .int x1, .int x2, .int x3] (jInv (jMain D ad cy) S)) (jQ (jMain D ad cy) (some (.int z.1), z.2)) 0 0 (yA (jMain D ad cy)) :=
  jMet hO (by decide +kernel) rfl (Nat.le_of_ble_eq_true rfl) (fun X _ C Q => p_X5_lets_r8_e C Q x1 x2 x3 S hz)
theorem k_X6_19_X5_lets_r8 {X : jX} {D : va_G} {ad : Nat → Nat} {cy : Nat → ClassId} {cc : ByteArray} {ret : Option FieldType} {nL fr lo pc : Nat} {lv : List (Nat × Value)} {st : List Value} {S : jS} {β : Type} {z : β} (C : jC X (jMain D ad cy) RX6 cc ret nL fr lo) {a0 : Int32} {a1 : Int32} {a2 : Int32} {E : Int32 → jS → Option β} (d : decode cc pc = .ok (.invokespecial 19, 3)) (hE : jcl (f_X5_lets_r8 a0 a1 a2 S) E = some z) (hfr : 1 ≤ fr) (hlo : 25 ≤ lo) (hst : (st.map fun v => v.category).sum ≤ 8) (K : ∀ (v : Int32) (S1 : jS), E v S1 = some z → jJ X (jMain D ad cy) (pc + 3) lv (.int v :: st) S1) : jJ X (jMain D ad cy) pc lv (.int a2 :: .int a1 :: .int a0 :: .ref (ad 8) :: st) S := by
  obtain ⟨v, h1, h2⟩ := jcl_some hE
  exact j_callSU (k := 8) (ci := 6) (T := TX6) (N := 1) (n := 3) (As := [.int a0, .int a1, .int a2]) C (c_X5_lets_r8 C.2.2.2.2.2.2.1 a0 a1 a2 S h1) tw_562 tw_550 tw_150 tw_548 tw_72 tw_583 (by decide +kernel) rfl (by decide : 8 < 56) rfl rfl hfr hlo hst rfl d (K _ _ h2)
set_option maxRecDepth 100000 in
theorem p_X6_lets_37 {X : jX} {D : va_G} {ad : Nat → Nat} {cy : Nat → ClassId} (C : jC X (jMain D ad cy) RX6 cX6_lets (some .boolean) 4 1 25) {z : Int32 × jS} (Q : jRet X (jMain D ad cy) (some (.int z.1), z.2))  (a0 : Int32) (S : jS) (hE : f_X6_lets_37   a0 S = some z) : jJ X (jMain D ad cy) 37 [] [.int a0] S := by
  unfold f_X6_lets_37 at hE
  exact j_zret C Q dX6_lets_37 hE
set_option maxRecDepth 100000 in
theorem p_X6_lets_36 {X : jX} {D : va_G} {ad : Nat → Nat} {cy : Nat → ClassId} (C : jC X (jMain D ad cy) RX6 cX6_lets (some .boolean) 4 1 25) {z : Int32 × jS} (Q : jRet X (jMain D ad cy) (some (.int z.1), z.2))   (S : jS) (hE : f_X6_lets_36    S = some z) : jJ X (jMain D ad cy) 36 [] [] S := by
  unfold f_X6_lets_36 at hE
  refine j_iconst (v := 0) C dX6_lets_36 jc_ic_0 ?_
  exact p_X6_lets_37 C Q  0 S hE
set_option maxRecDepth 100000 in
theorem p_X6_lets_e {X : jX} {D : va_G} {ad : Nat → Nat} {cy : Nat → ClassId} (C : jC X (jMain D ad cy) RX6 cX6_lets (some .boolean) 4 1 25) {z : Int32 × jS} (Q : jRet X (jMain D ad cy) (some (.int z.1), z.2))  (x1 : Int32) (x2 : Int32) (x3 : Int32) (S : jS) (hE : f_X6_lets_e   x1 x2 x3 S = some z) : jJ X (jMain D ad cy) 0 [(0, .ref (ad 8)), (1, .int x1), (2, .int x2), (3, .int x3)] [] S := by
  unfold f_X6_lets_e at hE
  refine j_aload_n C dX6_lets_0 0 rfl ?_
  refine g_X6_7_8 C dX6_lets_1 ?_
  refine j_iload_n C dX6_lets_4 1 rfl ?_
  refine k_X6_13_X3_isPrime C dX6_lets_5 hE (Nat.le_of_ble_eq_true rfl) (Nat.le_of_ble_eq_true rfl) (Nat.le_of_ble_eq_true rfl) (fun v2 S1 hE => ?_)
  refine j_if_ne (tgt := 36) C dX6_lets_8 rfl hE (fun hE => ?_) (fun hE => ?_)
  · refine j_sub [] rfl ?_
    exact p_X6_lets_36 C Q   S1 hE
  · refine j_aload_n C dX6_lets_11 0 rfl ?_
    refine g_X6_7_8 C dX6_lets_12 ?_
    refine j_iload_n C dX6_lets_15 2 rfl ?_
    refine k_X6_13_X3_isPrime C dX6_lets_16 hE (Nat.le_of_ble_eq_true rfl) (Nat.le_of_ble_eq_true rfl) (Nat.le_of_ble_eq_true rfl) (fun v4 S3 hE => ?_)
    refine j_if_ne (tgt := 36) C dX6_lets_19 rfl hE (fun hE => ?_) (fun hE => ?_)
    · refine j_sub [] rfl ?_
      exact p_X6_lets_36 C Q   S3 hE
    · refine j_aload_n C dX6_lets_22 0 rfl ?_
      refine j_iload_n C dX6_lets_23 1 rfl ?_
      refine j_iload_n C dX6_lets_24 2 rfl ?_
      refine j_iload_n C dX6_lets_25 3 rfl ?_
      refine k_X6_19_X5_lets_r8 C dX6_lets_26 hE (Nat.le_of_ble_eq_true rfl) (Nat.le_of_ble_eq_true rfl) (Nat.le_of_ble_eq_true rfl) (fun v6 S5 hE => ?_)
      refine j_if_eq (tgt := 36) C dX6_lets_29 rfl hE (fun hE => ?_) (fun hE => ?_)
      · refine j_sub [] rfl ?_
        exact p_X6_lets_36 C Q   S5 hE
      · refine j_iconst (v := 1) C dX6_lets_32 jc_ic_1 ?_
        refine j_goto (tgt := 37) C dX6_lets_33 rfl ?_
        refine j_sub [] rfl ?_
        exact p_X6_lets_37 C Q  1 S5 hE
theorem c_X6_lets {l : Launch} {D : va_G} {ad : Nat → Nat} {cy : Nat → ClassId} (hO : jOk (jMain D ad cy)) (x1 : Int32) (x2 : Int32) (x3 : Int32) (S : jS) {z : Int32 × jS} (hz : f_X6_lets x1 x2 x3 S = some z) : Met l yX6_lets (.code yX6_lets cX6_lets 4 (some .boolean) :: jT) { frames := 1, cells := 0, slots := 0, locals := 25 } (va_Pc [.ref (ad 8), .int x1, .int x2, .int x3] (jInv (jMain D ad cy) S)) (jQ (jMain D ad cy) (some (.int z.1), z.2)) 0 0 (yA (jMain D ad cy)) :=
  jMet hO (by decide +kernel) rfl (Nat.le_of_ble_eq_true rfl) (fun X _ C Q => p_X6_lets_e C Q x1 x2 x3 S hz)
theorem k_X2_35_X6_lets {X : jX} {D : va_G} {ad : Nat → Nat} {cy : Nat → ClassId} {cc : ByteArray} {ret : Option FieldType} {nL fr lo pc : Nat} {lv : List (Nat × Value)} {st : List Value} {S : jS} {β : Type} {z : β} (C : jC X (jMain D ad cy) RX2 cc ret nL fr lo) {a0 : Int32} {a1 : Int32} {a2 : Int32} {E : Int32 → jS → Option β} (d : decode cc pc = .ok (.invokevirtual 35, 3)) (hE : jcl (f_X6_lets a0 a1 a2 S) E = some z) (hfr : 2 ≤ fr) (hlo : 48 ≤ lo) (hst : (st.map fun v => v.category).sum ≤ 8) (K : ∀ (v : Int32) (S1 : jS), E v S1 = some z → jJ X (jMain D ad cy) (pc + 3) lv (.int v :: st) S1) : jJ X (jMain D ad cy) pc lv (.int a2 :: .int a1 :: .int a0 :: .ref (ad 8) :: st) S := by
  obtain ⟨v, h1, h2⟩ := jcl_some hE
  exact j_callO (x := yX5_lets) (owner := "OddFridays$Plain") (k := 8) (ci := 6) (T := TX6) (N := 1) (n := 3) (As := [.int a0, .int a1, .int a2]) C (c_X6_lets C.2.2.2.2.2.2.1 a0 a1 a2 S h1) tw_547 tw_550 tw_548 tw_570 tw_559 tw_74 tw_560 tw_583 (by decide +kernel) rfl (by decide : 8 < 56) rfl rfl hfr hlo hst rfl d (K _ _ h2)
set_option maxRecDepth 100000 in
theorem p_X5_lets_r9_50 {X : jX} {D : va_G} {ad : Nat → Nat} {cy : Nat → ClassId} (C : jC X (jMain D ad cy) RX5 cX5_lets (some .boolean) 6 0 0) {z : Int32 × jS} (Q : jRet X (jMain D ad cy) (some (.int z.1), z.2))  (a0 : Int32) (S : jS) (hE : f_X5_lets_r9_50   a0 S = some z) : jJ X (jMain D ad cy) 50 [] [.int a0] S := by
  unfold f_X5_lets_r9_50 at hE
  exact j_zret C Q dX5_lets_50 hE
set_option maxRecDepth 100000 in
theorem p_X5_lets_r9_45 {X : jX} {D : va_G} {ad : Nat → Nat} {cy : Nat → ClassId} (C : jC X (jMain D ad cy) RX5 cX5_lets (some .boolean) 6 0 0) {z : Int32 × jS} (Q : jRet X (jMain D ad cy) (some (.int z.1), z.2))   (S : jS) (hE : f_X5_lets_r9_45    S = some z) : jJ X (jMain D ad cy) 45 [] [] S := by
  unfold f_X5_lets_r9_45 at hE
  refine j_iconst (v := 1) C dX5_lets_45 jc_ic_1 ?_
  refine j_goto (tgt := 50) C dX5_lets_46 rfl ?_
  exact p_X5_lets_r9_50 C Q  1 S hE
set_option maxRecDepth 100000 in
theorem p_X5_lets_r9_22 {X : jX} {D : va_G} {ad : Nat → Nat} {cy : Nat → ClassId} (C : jC X (jMain D ad cy) RX5 cX5_lets (some .boolean) 6 0 0) {z : Int32 × jS} (Q : jRet X (jMain D ad cy) (some (.int z.1), z.2))  (a0 : Int32) (x4 : Int32) (S : jS) (hE : f_X5_lets_r9_22   a0 x4 S = some z) : jJ X (jMain D ad cy) 22 [(4, .int x4)] [.int a0] S := by
  unfold f_X5_lets_r9_22 at hE
  refine j_istore (lv' := [(5, .int a0), (4, .int x4)]) C dX5_lets_22 (by decide) rfl ?_
  refine j_iload C dX5_lets_24 1 rfl ?_
  refine j_iload C dX5_lets_26 0 rfl ?_
  refine j_icmp_eq (tgt := 45) C dX5_lets_28 rfl hE (fun hE => ?_) (fun hE => ?_)
  · refine j_sub [] rfl ?_
    exact p_X5_lets_r9_45 C Q   S hE
  · refine j_iload C dX5_lets_31 1 rfl ?_
    refine j_iconst (v := 1) C dX5_lets_33 jc_ic_1 ?_
    refine j_icmp_lt (tgt := 45) C dX5_lets_34 rfl hE (fun hE => ?_) (fun hE => ?_)
    · refine j_sub [] rfl ?_
      exact p_X5_lets_r9_45 C Q   S hE
    · refine j_iload C dX5_lets_37 0 rfl ?_
      refine j_iload C dX5_lets_39 1 rfl ?_
      refine j_irem C dX5_lets_41 hE (fun v1 hE => ?_)
      refine j_if_eq (tgt := 49) C dX5_lets_42 rfl hE (fun hE => ?_) (fun hE => ?_)
      · refine j_iconst (v := 0) C dX5_lets_49 jc_ic_0 ?_
        refine j_sub [] rfl ?_
        exact p_X5_lets_r9_50 C Q  0 S hE
      · refine j_sub [] rfl ?_
        exact p_X5_lets_r9_45 C Q   S hE
set_option maxRecDepth 100000 in
theorem p_X5_lets_r9_10 {X : jX} {D : va_G} {ad : Nat → Nat} {cy : Nat → ClassId} (C : jC X (jMain D ad cy) RX5 cX5_lets (some .boolean) 6 0 0) {z : Int32 × jS} (Q : jRet X (jMain D ad cy) (some (.int z.1), z.2))  (a0 : Int32) (x1 : Int32) (x2 : Int32) (S : jS) (hE : f_X5_lets_r9_10   a0 x1 x2 S = some z) : jJ X (jMain D ad cy) 10 [(1, .int x1), (2, .int x2)] [.int a0] S := by
  unfold f_X5_lets_r9_10 at hE
  refine j_istore (lv' := [(4, .int a0), (1, .int x1), (2, .int x2)]) C dX5_lets_10 (by decide) rfl ?_
  refine j_iload_n C dX5_lets_12 1 rfl ?_
  refine j_iload_n C dX5_lets_13 2 rfl ?_
  refine j_icmp_ge (tgt := 21) C dX5_lets_14 rfl hE (fun hE => ?_) (fun hE => ?_)
  · refine j_iload_n C dX5_lets_21 1 rfl ?_
    refine j_sub [0] rfl ?_
    exact p_X5_lets_r9_22 C Q  x1 a0 S hE
  · refine j_iload_n C dX5_lets_17 2 rfl ?_
    refine j_goto (tgt := 22) C dX5_lets_18 rfl ?_
    refine j_sub [0] rfl ?_
    exact p_X5_lets_r9_22 C Q  x2 a0 S hE
set_option maxRecDepth 100000 in
theorem p_X5_lets_r9_e {X : jX} {D : va_G} {ad : Nat → Nat} {cy : Nat → ClassId} (C : jC X (jMain D ad cy) RX5 cX5_lets (some .boolean) 6 0 0) {z : Int32 × jS} (Q : jRet X (jMain D ad cy) (some (.int z.1), z.2))  (x1 : Int32) (x2 : Int32) (x3 : Int32) (S : jS) (hE : f_X5_lets_r9_e   x1 x2 x3 S = some z) : jJ X (jMain D ad cy) 0 [(0, .ref (ad 9)), (1, .int x1), (2, .int x2), (3, .int x3)] [] S := by
  unfold f_X5_lets_r9_e at hE
  refine j_iload_n C dX5_lets_0 1 rfl ?_
  refine j_iload_n C dX5_lets_1 2 rfl ?_
  refine j_icmp_ge (tgt := 9) C dX5_lets_2 rfl hE (fun hE => ?_) (fun hE => ?_)
  · refine j_iload_n C dX5_lets_9 2 rfl ?_
    refine j_sub [1, 2] rfl ?_
    exact p_X5_lets_r9_10 C Q  x2 x1 x2 S hE
  · refine j_iload_n C dX5_lets_5 1 rfl ?_
    refine j_goto (tgt := 10) C dX5_lets_6 rfl ?_
    refine j_sub [1, 2] rfl ?_
    exact p_X5_lets_r9_10 C Q  x1 x1 x2 S hE
theorem c_X5_lets_r9 {l : Launch} {D : va_G} {ad : Nat → Nat} {cy : Nat → ClassId} (hO : jOk (jMain D ad cy)) (x1 : Int32) (x2 : Int32) (x3 : Int32) (S : jS) {z : Int32 × jS} (hz : f_X5_lets_r9 x1 x2 x3 S = some z) : Met l yX5_lets (.code yX5_lets cX5_lets 6 (some .boolean) :: jT) { frames := 0, cells := 0, slots := 0, locals := 0 } (va_Pc [.ref (ad 9), .int x1, .int x2, .int x3] (jInv (jMain D ad cy) S)) (jQ (jMain D ad cy) (some (.int z.1), z.2)) 0 0 (yA (jMain D ad cy)) :=
  jMet hO (by decide +kernel) rfl (Nat.le_of_ble_eq_true rfl) (fun X _ C Q => p_X5_lets_r9_e C Q x1 x2 x3 S hz)
theorem k_X0_7_X5_lets_r9 {X : jX} {D : va_G} {ad : Nat → Nat} {cy : Nat → ClassId} {cc : ByteArray} {ret : Option FieldType} {nL fr lo pc : Nat} {lv : List (Nat × Value)} {st : List Value} {S : jS} {β : Type} {z : β} (C : jC X (jMain D ad cy) RX0 cc ret nL fr lo) {a0 : Int32} {a1 : Int32} {a2 : Int32} {E : Int32 → jS → Option β} (d : decode cc pc = .ok (.invokespecial 7, 3)) (hE : jcl (f_X5_lets_r9 a0 a1 a2 S) E = some z) (hfr : 1 ≤ fr) (hlo : 25 ≤ lo) (hst : (st.map fun v => v.category).sum ≤ 8) (K : ∀ (v : Int32) (S1 : jS), E v S1 = some z → jJ X (jMain D ad cy) (pc + 3) lv (.int v :: st) S1) : jJ X (jMain D ad cy) pc lv (.int a2 :: .int a1 :: .int a0 :: .ref (ad 9) :: st) S := by
  obtain ⟨v, h1, h2⟩ := jcl_some hE
  exact j_callSU (k := 9) (ci := 9) (T := TX9) (N := 1) (n := 3) (As := [.int a0, .int a1, .int a2]) C (c_X5_lets_r9 C.2.2.2.2.2.2.1 a0 a1 a2 S h1) tw_554 tw_550 tw_142 tw_548 tw_72 tw_583 (by decide +kernel) rfl (by decide : 9 < 56) rfl rfl hfr hlo hst rfl d (K _ _ h2)
set_option maxRecDepth 100000 in
theorem p_X0_lets_r9_23 {X : jX} {D : va_G} {ad : Nat → Nat} {cy : Nat → ClassId} (C : jC X (jMain D ad cy) RX0 cX0_lets (some .boolean) 4 1 25) {z : Int32 × jS} (Q : jRet X (jMain D ad cy) (some (.int z.1), z.2))  (a0 : Int32) (S : jS) (hE : f_X0_lets_r9_23   a0 S = some z) : jJ X (jMain D ad cy) 23 [] [.int a0] S := by
  unfold f_X0_lets_r9_23 at hE
  exact j_zret C Q dX0_lets_23 hE
set_option maxRecDepth 100000 in
theorem p_X0_lets_r9_22 {X : jX} {D : va_G} {ad : Nat → Nat} {cy : Nat → ClassId} (C : jC X (jMain D ad cy) RX0 cX0_lets (some .boolean) 4 1 25) {z : Int32 × jS} (Q : jRet X (jMain D ad cy) (some (.int z.1), z.2))   (S : jS) (hE : f_X0_lets_r9_22    S = some z) : jJ X (jMain D ad cy) 22 [] [] S := by
  unfold f_X0_lets_r9_22 at hE
  refine j_iconst (v := 0) C dX0_lets_22 jc_ic_0 ?_
  exact p_X0_lets_r9_23 C Q  0 S hE
set_option maxRecDepth 100000 in
theorem p_X0_lets_r9_e {X : jX} {D : va_G} {ad : Nat → Nat} {cy : Nat → ClassId} (C : jC X (jMain D ad cy) RX0 cX0_lets (some .boolean) 4 1 25) {z : Int32 × jS} (Q : jRet X (jMain D ad cy) (some (.int z.1), z.2))  (x1 : Int32) (x2 : Int32) (x3 : Int32) (S : jS) (hE : f_X0_lets_r9_e   x1 x2 x3 S = some z) : jJ X (jMain D ad cy) 0 [(0, .ref (ad 9)), (1, .int x1), (2, .int x2), (3, .int x3)] [] S := by
  unfold f_X0_lets_r9_e at hE
  refine j_iload_n C dX0_lets_0 1 rfl ?_
  refine j_iload_n C dX0_lets_1 2 rfl ?_
  refine j_iadd C dX0_lets_2 ?_
  refine j_iconst (v := 2) C dX0_lets_3 jc_ic_2 ?_
  refine j_irem C dX0_lets_4 hE (fun v1 hE => ?_)
  refine j_if_ne (tgt := 22) C dX0_lets_5 rfl hE (fun hE => ?_) (fun hE => ?_)
  · refine j_sub [] rfl ?_
    exact p_X0_lets_r9_22 C Q   S hE
  · refine j_aload_n C dX0_lets_8 0 rfl ?_
    refine j_iload_n C dX0_lets_9 1 rfl ?_
    refine j_iload_n C dX0_lets_10 2 rfl ?_
    refine j_iload_n C dX0_lets_11 3 rfl ?_
    refine k_X0_7_X5_lets_r9 C dX0_lets_12 hE (Nat.le_of_ble_eq_true rfl) (Nat.le_of_ble_eq_true rfl) (Nat.le_of_ble_eq_true rfl) (fun v3 S2 hE => ?_)
    refine j_if_eq (tgt := 22) C dX0_lets_15 rfl hE (fun hE => ?_) (fun hE => ?_)
    · refine j_sub [] rfl ?_
      exact p_X0_lets_r9_22 C Q   S2 hE
    · refine j_iconst (v := 1) C dX0_lets_18 jc_ic_1 ?_
      refine j_goto (tgt := 23) C dX0_lets_19 rfl ?_
      refine j_sub [] rfl ?_
      exact p_X0_lets_r9_23 C Q  1 S2 hE
theorem c_X0_lets_r9 {l : Launch} {D : va_G} {ad : Nat → Nat} {cy : Nat → ClassId} (hO : jOk (jMain D ad cy)) (x1 : Int32) (x2 : Int32) (x3 : Int32) (S : jS) {z : Int32 × jS} (hz : f_X0_lets_r9 x1 x2 x3 S = some z) : Met l yX0_lets (.code yX0_lets cX0_lets 4 (some .boolean) :: jT) { frames := 1, cells := 0, slots := 0, locals := 25 } (va_Pc [.ref (ad 9), .int x1, .int x2, .int x3] (jInv (jMain D ad cy) S)) (jQ (jMain D ad cy) (some (.int z.1), z.2)) 0 0 (yA (jMain D ad cy)) :=
  jMet hO (by decide +kernel) rfl (Nat.le_of_ble_eq_true rfl) (fun X _ C Q => p_X0_lets_r9_e C Q x1 x2 x3 S hz)
theorem k_X9_7_X0_lets_r9 {X : jX} {D : va_G} {ad : Nat → Nat} {cy : Nat → ClassId} {cc : ByteArray} {ret : Option FieldType} {nL fr lo pc : Nat} {lv : List (Nat × Value)} {st : List Value} {S : jS} {β : Type} {z : β} (C : jC X (jMain D ad cy) RX9 cc ret nL fr lo) {a0 : Int32} {a1 : Int32} {a2 : Int32} {E : Int32 → jS → Option β} (d : decode cc pc = .ok (.invokespecial 7, 3)) (hE : jcl (f_X0_lets_r9 a0 a1 a2 S) E = some z) (hfr : 2 ≤ fr) (hlo : 48 ≤ lo) (hst : (st.map fun v => v.category).sum ≤ 8) (K : ∀ (v : Int32) (S1 : jS), E v S1 = some z → jJ X (jMain D ad cy) (pc + 3) lv (.int v :: st) S1) : jJ X (jMain D ad cy) pc lv (.int a2 :: .int a1 :: .int a0 :: .ref (ad 9) :: st) S := by
  obtain ⟨v, h1, h2⟩ := jcl_some hE
  exact j_callSU (k := 9) (ci := 9) (T := TX9) (N := 1) (n := 3) (As := [.int a0, .int a1, .int a2]) C (c_X0_lets_r9 C.2.2.2.2.2.2.1 a0 a1 a2 S h1) tw_581 tw_1292 tw_158 tw_552 tw_73 tw_553 (by decide +kernel) rfl (by decide : 9 < 56) rfl rfl hfr hlo hst rfl d (K _ _ h2)
