set_option maxRecDepth 100000 in
theorem p_X4_sumOver_44 {X : jX} {D : va_G} {ad : Nat → Nat} {cy : Nat → ClassId} (C : jC X (jMain D ad cy) RX4 cX4_sumOver (some .int) 5 0 0) {z : Int32 × jS} (Q : jRet X (jMain D ad cy) (some (.int z.1), z.2)) {g : Int32 → Int32 → Int32 → Int32 → jS → Option (Int32 × jS)} (hg : ∀ (x1 : Int32) (x2 : Int32) (x3 : Int32) (x4 : Int32) (S : jS), g x1 x2 x3 x4 S = some z → jJ X (jMain D ad cy) 5 [(0, .ref (ad 12)), (1, .int x1), (2, .int x2), (3, .int x3), (4, .int x4)] [] S) {k50 : Int32 → jS → Option (Int32 × jS)} (hk50 : ∀ (x3 : Int32) (S : jS), k50 x3 S = some z → jJ X (jMain D ad cy) 50 [(3, .int x3)] [] S) (x1 : Int32) (x2 : Int32) (x3 : Int32) (x4 : Int32) (S : jS) (hE : f_X4_sumOver_44  g k50 x1 x2 x3 x4 S = some z) : jJ X (jMain D ad cy) 44 [(0, .ref (ad 12)), (1, .int x1), (2, .int x2), (3, .int x3), (4, .int x4)] [] S := by
  unfold f_X4_sumOver_44 at hE
  refine j_iinc (v := (x4 + 1)) (lv' := [(4, .int (x4 + 1)), (0, .ref (ad 12)), (1, .int x1), (2, .int x2), (3, .int x3)]) C dX4_sumOver_44 4 rfl (congrArg (fun w => x4 + w) jc_ic_1) (by decide) rfl ?_
  refine j_goto (tgt := 5) C dX4_sumOver_47 rfl ?_
  refine j_sub [1, 2, 3, 4, 0] rfl ?_
  exact hg x1 x2 x3 (x4 + 1) S hE
set_option maxRecDepth 100000 in
theorem p_X4_sumOver_5 {X : jX} {D : va_G} {ad : Nat → Nat} {cy : Nat → ClassId} (C : jC X (jMain D ad cy) RX4 cX4_sumOver (some .int) 5 0 0) {z : Int32 × jS} (Q : jRet X (jMain D ad cy) (some (.int z.1), z.2)) {g : Int32 → Int32 → Int32 → Int32 → jS → Option (Int32 × jS)} (hg : ∀ (x1 : Int32) (x2 : Int32) (x3 : Int32) (x4 : Int32) (S : jS), g x1 x2 x3 x4 S = some z → jJ X (jMain D ad cy) 5 [(0, .ref (ad 12)), (1, .int x1), (2, .int x2), (3, .int x3), (4, .int x4)] [] S) {k50 : Int32 → jS → Option (Int32 × jS)} (hk50 : ∀ (x3 : Int32) (S : jS), k50 x3 S = some z → jJ X (jMain D ad cy) 50 [(3, .int x3)] [] S) (x1 : Int32) (x2 : Int32) (x3 : Int32) (x4 : Int32) (S : jS) (hE : f_X4_sumOver_5  g k50 x1 x2 x3 x4 S = some z) : jJ X (jMain D ad cy) 5 [(0, .ref (ad 12)), (1, .int x1), (2, .int x2), (3, .int x3), (4, .int x4)] [] S := by
  unfold f_X4_sumOver_5 at hE
  refine j_iload C dX4_sumOver_5 4 rfl ?_
  refine j_aload_n C dX4_sumOver_7 0 rfl ?_
  refine g_X4_41_12 C dX4_sumOver_8 ?_
  refine j_icmp_ge (tgt := 50) C dX4_sumOver_11 rfl hE (fun hE => ?_) (fun hE => ?_)
  · refine j_sub [3] rfl ?_
    exact hk50 x3 S hE
  · refine j_iload_n C dX4_sumOver_14 2 rfl ?_
    refine j_iload C dX4_sumOver_15 4 rfl ?_
    refine j_ishr C dX4_sumOver_17 ?_
    refine j_iconst (v := 1) C dX4_sumOver_18 jc_ic_1 ?_
    refine j_iand C dX4_sumOver_19 ?_
    refine j_iconst (v := 1) C dX4_sumOver_20 jc_ic_1 ?_
    refine j_icmp_ne (tgt := 44) C dX4_sumOver_21 rfl hE (fun hE => ?_) (fun hE => ?_)
    · exact p_X4_sumOver_44 C Q hg hk50 x1 x2 x3 x4 S hE
    · refine j_iload_n C dX4_sumOver_24 3 rfl ?_
      refine j_aload_n C dX4_sumOver_25 0 rfl ?_
      refine g_X4_21_12 C dX4_sumOver_26 ?_
      refine j_iload_n C dX4_sumOver_29 1 rfl ?_
      refine j_iconst (v := 1) C dX4_sumOver_30 jc_ic_1 ?_
      refine j_iload C dX4_sumOver_31 4 rfl ?_
      refine j_ishl C dX4_sumOver_33 ?_
      refine j_ior C dX4_sumOver_34 ?_
      refine j_bipush (v := 8) C dX4_sumOver_35 jc_bp_8 ?_
      refine j_imul C dX4_sumOver_37 ?_
      refine j_iload C dX4_sumOver_38 4 rfl ?_
      refine j_iadd C dX4_sumOver_40 ?_
      refine l_16 C dX4_sumOver_41 hE (fun v1 hE => ?_)
      refine j_iadd C dX4_sumOver_42 ?_
      refine j_istore_n (i := 3) (lv' := [(3, .int (x3 + v1)), (0, .ref (ad 12)), (1, .int x1), (2, .int x2), (4, .int x4)]) C dX4_sumOver_43 rfl (by decide) rfl ?_
      refine j_sub [1, 2, 3, 0, 4] rfl ?_
      exact p_X4_sumOver_44 C Q hg hk50 x1 x2 (x3 + v1) x4 S hE
theorem q_X4_sumOver_5 {X : jX} {D : va_G} {ad : Nat → Nat} {cy : Nat → ClassId} (C : jC X (jMain D ad cy) RX4 cX4_sumOver (some .int) 5 0 0) {z : Int32 × jS} (Q : jRet X (jMain D ad cy) (some (.int z.1), z.2)) {k50 : Int32 → jS → Option (Int32 × jS)} (hk50 : ∀ (x3 : Int32) (S : jS), k50 x3 S = some z → jJ X (jMain D ad cy) 50 [(3, .int x3)] [] S) (x1 : Int32) (x2 : Int32) (x3 : Int32) (x4 : Int32) (S : jS) (hE : lp_X4_sumOver_5  k50 x1 x2 x3 x4 S = some z) : jJ X (jMain D ad cy) 5 [(0, .ref (ad 12)), (1, .int x1), (2, .int x2), (3, .int x3), (4, .int x4)] [] S :=
  jloop_P (α := Int32 × Int32 × Int32 × Int32 × jS) (B := (fun g q => f_X4_sumOver_5  (fun x1 x2 x3 x4 S => g (x1, x2, x3, x4, S)) k50 q.1 q.2.1 q.2.2.1 q.2.2.2.1 q.2.2.2.2)) (P := fun q => jJ X (jMain D ad cy) 5 [(0, .ref (ad 12)), (1, .int q.1), (2, .int q.2.1), (3, .int q.2.2.1), (4, .int q.2.2.2.1)] [] q.2.2.2.2) (fun g q hg h => p_X4_sumOver_5 C Q (g := fun x1 x2 x3 x4 S => g (x1, x2, x3, x4, S)) (fun x1 x2 x3 x4 S h => hg (x1, x2, x3, x4, S) h) hk50 q.1 q.2.1 q.2.2.1 q.2.2.2.1 q.2.2.2.2 h) jN (x1, x2, x3, x4, S) hE
set_option maxRecDepth 100000 in
theorem p_X4_sumOver_50 {X : jX} {D : va_G} {ad : Nat → Nat} {cy : Nat → ClassId} (C : jC X (jMain D ad cy) RX4 cX4_sumOver (some .int) 5 0 0) {z : Int32 × jS} (Q : jRet X (jMain D ad cy) (some (.int z.1), z.2))  (x3 : Int32) (S : jS) (hE : f_X4_sumOver_50   x3 S = some z) : jJ X (jMain D ad cy) 50 [(3, .int x3)] [] S := by
  unfold f_X4_sumOver_50 at hE
  refine j_iload_n C dX4_sumOver_50 0 rfl ?_
  exact j_iret C Q dX4_sumOver_51 hE
set_option maxRecDepth 100000 in
theorem p_X4_sumOver_e {X : jX} {D : va_G} {ad : Nat → Nat} {cy : Nat → ClassId} (C : jC X (jMain D ad cy) RX4 cX4_sumOver (some .int) 5 0 0) {z : Int32 × jS} (Q : jRet X (jMain D ad cy) (some (.int z.1), z.2))  (x1 : Int32) (x2 : Int32) (S : jS) (hE : f_X4_sumOver_e   x1 x2 S = some z) : jJ X (jMain D ad cy) 0 [(0, .ref (ad 12)), (1, .int x1), (2, .int x2)] [] S := by
  unfold f_X4_sumOver_e at hE
  refine j_iconst (v := 0) C dX4_sumOver_0 jc_ic_0 ?_
  refine j_istore_n (i := 3) (lv' := [(3, .int 0), (0, .ref (ad 12)), (1, .int x1), (2, .int x2)]) C dX4_sumOver_1 rfl (by decide) rfl ?_
  refine j_iconst (v := 0) C dX4_sumOver_2 jc_ic_0 ?_
  refine j_istore (lv' := [(4, .int 0), (3, .int 0), (0, .ref (ad 12)), (1, .int x1), (2, .int x2)]) C dX4_sumOver_3 (by decide) rfl ?_
  refine j_sub [2, 3, 4, 1, 0] rfl ?_
  exact q_X4_sumOver_5 C Q (p_X4_sumOver_50 C Q ) x1 x2 0 0 S hE
theorem c_X4_sumOver {l : Launch} {D : va_G} {ad : Nat → Nat} {cy : Nat → ClassId} (hO : jOk (jMain D ad cy)) (x1 : Int32) (x2 : Int32) (S : jS) {z : Int32 × jS} (hz : f_X4_sumOver x1 x2 S = some z) : Met l yX4_sumOver (.code yX4_sumOver cX4_sumOver 5 (some .int) :: jT) { frames := 0, cells := 0, slots := 0, locals := 0 } (va_Pc [.ref (ad 12), .int x1, .int x2] (jInv (jMain D ad cy) S)) (jQ (jMain D ad cy) (some (.int z.1), z.2)) 0 0 (yA (jMain D ad cy)) :=
  jMet hO (by decide +kernel) rfl (Nat.le_of_ble_eq_true rfl) (fun X _ C Q => p_X4_sumOver_e C Q x1 x2 S hz)
theorem k_X4_55_X4_sumOver {X : jX} {D : va_G} {ad : Nat → Nat} {cy : Nat → ClassId} {cc : ByteArray} {ret : Option FieldType} {nL fr lo pc : Nat} {lv : List (Nat × Value)} {st : List Value} {S : jS} {β : Type} {z : β} (C : jC X (jMain D ad cy) RX4 cc ret nL fr lo) {a0 : Int32} {a1 : Int32} {E : Int32 → jS → Option β} (d : decode cc pc = .ok (.invokevirtual 55, 3)) (hE : jcl (f_X4_sumOver a0 a1 S) E = some z) (hfr : 1 ≤ fr) (hlo : 24 ≤ lo) (hst : (st.map fun v => v.category).sum ≤ 8) (K : ∀ (v : Int32) (S1 : jS), E v S1 = some z → jJ X (jMain D ad cy) (pc + 3) lv (.int v :: st) S1) : jJ X (jMain D ad cy) pc lv (.int a1 :: .int a0 :: .ref (ad 12) :: st) S := by
  obtain ⟨v, h1, h2⟩ := jcl_some hE
  exact j_callV (k := 12) (ci := 4) (T := TX4) (N := 7) (n := 2) (As := [.int a0, .int a1]) C (c_X4_sumOver C.2.2.2.2.2.2.1 a0 a1 S h1) tw_639 tw_641 tw_16 tw_78 tw_642 (by decide +kernel) rfl (by decide : 12 < 56) rfl rfl hfr hlo hst rfl d (K _ _ h2)
set_option maxRecDepth 100000 in
theorem p_X4_countOrders_65 {X : jX} {D : va_G} {ad : Nat → Nat} {cy : Nat → ClassId} (C : jC X (jMain D ad cy) RX4 cX4_countOrders (some .int) 4 2 45) {z : Int32 × jS} (Q : jRet X (jMain D ad cy) (some (.int z.1), z.2)) {g : Int32 → Int32 → Int32 → jS → Option (Int32 × jS)} (hg : ∀ (x1 : Int32) (x2 : Int32) (x3 : Int32) (S : jS), g x1 x2 x3 S = some z → jJ X (jMain D ad cy) 17 [(0, .ref (ad 12)), (1, .int x1), (2, .int x2), (3, .int x3)] [] S) {k71 : Int32 → Int32 → jS → Option (Int32 × jS)} (hk71 : ∀ (x1 : Int32) (x2 : Int32) (S : jS), k71 x1 x2 S = some z → jJ X (jMain D ad cy) 71 [(0, .ref (ad 12)), (1, .int x1), (2, .int x2)] [] S) (x1 : Int32) (x2 : Int32) (x3 : Int32) (S : jS) (hE : f_X4_countOrders_65  g k71 x1 x2 x3 S = some z) : jJ X (jMain D ad cy) 65 [(0, .ref (ad 12)), (1, .int x1), (2, .int x2), (3, .int x3)] [] S := by
  unfold f_X4_countOrders_65 at hE
  refine j_iinc (v := (x3 + 1)) (lv' := [(3, .int (x3 + 1)), (0, .ref (ad 12)), (1, .int x1), (2, .int x2)]) C dX4_countOrders_65 3 rfl (congrArg (fun w => x3 + w) jc_ic_1) (by decide) rfl ?_
  refine j_goto (tgt := 17) C dX4_countOrders_68 rfl ?_
  refine j_sub [1, 2, 3, 0] rfl ?_
  exact hg x1 x2 (x3 + 1) S hE
set_option maxRecDepth 100000 in
theorem p_X4_countOrders_64 {X : jX} {D : va_G} {ad : Nat → Nat} {cy : Nat → ClassId} (C : jC X (jMain D ad cy) RX4 cX4_countOrders (some .int) 4 2 45) {z : Int32 × jS} (Q : jRet X (jMain D ad cy) (some (.int z.1), z.2)) {g : Int32 → Int32 → Int32 → jS → Option (Int32 × jS)} (hg : ∀ (x1 : Int32) (x2 : Int32) (x3 : Int32) (S : jS), g x1 x2 x3 S = some z → jJ X (jMain D ad cy) 17 [(0, .ref (ad 12)), (1, .int x1), (2, .int x2), (3, .int x3)] [] S) {k71 : Int32 → Int32 → jS → Option (Int32 × jS)} (hk71 : ∀ (x1 : Int32) (x2 : Int32) (S : jS), k71 x1 x2 S = some z → jJ X (jMain D ad cy) 71 [(0, .ref (ad 12)), (1, .int x1), (2, .int x2)] [] S) (a0 : Int32) (a1 : Int32) (x1 : Int32) (x2 : Int32) (x3 : Int32) (S : jS) (hE : f_X4_countOrders_64  g k71 a0 a1 x1 x2 x3 S = some z) : jJ X (jMain D ad cy) 64 [(0, .ref (ad 12)), (1, .int x1), (2, .int x2), (3, .int x3)] [.int a0, .int a1, .ref (ad 16)] S := by
  unfold f_X4_countOrders_64 at hE
  refine s_16 C dX4_countOrders_64 hE (fun S1 hE => ?_)
  exact p_X4_countOrders_65 C Q hg hk71 x1 x2 x3 S1 hE
set_option maxRecDepth 100000 in
theorem p_X4_countOrders_17 {X : jX} {D : va_G} {ad : Nat → Nat} {cy : Nat → ClassId} (C : jC X (jMain D ad cy) RX4 cX4_countOrders (some .int) 4 2 45) {z : Int32 × jS} (Q : jRet X (jMain D ad cy) (some (.int z.1), z.2)) {g : Int32 → Int32 → Int32 → jS → Option (Int32 × jS)} (hg : ∀ (x1 : Int32) (x2 : Int32) (x3 : Int32) (S : jS), g x1 x2 x3 S = some z → jJ X (jMain D ad cy) 17 [(0, .ref (ad 12)), (1, .int x1), (2, .int x2), (3, .int x3)] [] S) {k71 : Int32 → Int32 → jS → Option (Int32 × jS)} (hk71 : ∀ (x1 : Int32) (x2 : Int32) (S : jS), k71 x1 x2 S = some z → jJ X (jMain D ad cy) 71 [(0, .ref (ad 12)), (1, .int x1), (2, .int x2)] [] S) (x1 : Int32) (x2 : Int32) (x3 : Int32) (S : jS) (hE : f_X4_countOrders_17  g k71 x1 x2 x3 S = some z) : jJ X (jMain D ad cy) 17 [(0, .ref (ad 12)), (1, .int x1), (2, .int x2), (3, .int x3)] [] S := by
  unfold f_X4_countOrders_17 at hE
  refine j_iload_n C dX4_countOrders_17 3 rfl ?_
  refine j_aload_n C dX4_countOrders_18 0 rfl ?_
  refine g_X4_41_12 C dX4_countOrders_19 ?_
  refine j_icmp_ge (tgt := 71) C dX4_countOrders_22 rfl hE (fun hE => ?_) (fun hE => ?_)
  · refine j_sub [0, 1, 2] rfl ?_
    exact hk71 x1 x2 S hE
  · refine j_iload_n C dX4_countOrders_25 2 rfl ?_
    refine j_iload_n C dX4_countOrders_26 3 rfl ?_
    refine j_ishr C dX4_countOrders_27 ?_
    refine j_iconst (v := 1) C dX4_countOrders_28 jc_ic_1 ?_
    refine j_iand C dX4_countOrders_29 ?_
    refine j_iconst (v := 1) C dX4_countOrders_30 jc_ic_1 ?_
    refine j_icmp_ne (tgt := 65) C dX4_countOrders_31 rfl hE (fun hE => ?_) (fun hE => ?_)
    · exact p_X4_countOrders_65 C Q hg hk71 x1 x2 x3 S hE
    · refine j_aload_n C dX4_countOrders_34 0 rfl ?_
      refine g_X4_21_12 C dX4_countOrders_35 ?_
      refine j_iload_n C dX4_countOrders_38 2 rfl ?_
      refine j_bipush (v := 8) C dX4_countOrders_39 jc_bp_8 ?_
      refine j_imul C dX4_countOrders_41 ?_
      refine j_iload_n C dX4_countOrders_42 3 rfl ?_
      refine j_iadd C dX4_countOrders_43 ?_
      refine j_iload_n C dX4_countOrders_44 2 rfl ?_
      refine j_iload_n C dX4_countOrders_45 1 rfl ?_
      refine j_icmp_ne (tgt := 53) C dX4_countOrders_46 rfl hE (fun hE => ?_) (fun hE => ?_)
      · refine j_aload_n C dX4_countOrders_53 0 rfl ?_
        refine j_iload_n C dX4_countOrders_54 2 rfl ?_
        refine j_aload_n C dX4_countOrders_55 0 rfl ?_
        refine j_iload_n C dX4_countOrders_56 2 rfl ?_
        refine j_iload_n C dX4_countOrders_57 3 rfl ?_
        refine k_X4_51_X4_comers C dX4_countOrders_58 hE (Nat.le_of_ble_eq_true rfl) (Nat.le_of_ble_eq_true rfl) (Nat.le_of_ble_eq_true rfl) (fun v2 S1 hE => ?_)
        refine k_X4_55_X4_sumOver C dX4_countOrders_61 hE (Nat.le_of_ble_eq_true rfl) (Nat.le_of_ble_eq_true rfl) (Nat.le_of_ble_eq_true rfl) (fun v4 S3 hE => ?_)
        exact p_X4_countOrders_64 C Q hg hk71 v4 ((x2 * 8) + x3) x1 x2 x3 S3 hE
      · refine j_iconst (v := 1) C dX4_countOrders_49 jc_ic_1 ?_
        refine j_goto (tgt := 64) C dX4_countOrders_50 rfl ?_
        exact p_X4_countOrders_64 C Q hg hk71 1 ((x2 * 8) + x3) x1 x2 x3 S hE
theorem q_X4_countOrders_17 {X : jX} {D : va_G} {ad : Nat → Nat} {cy : Nat → ClassId} (C : jC X (jMain D ad cy) RX4 cX4_countOrders (some .int) 4 2 45) {z : Int32 × jS} (Q : jRet X (jMain D ad cy) (some (.int z.1), z.2)) {k71 : Int32 → Int32 → jS → Option (Int32 × jS)} (hk71 : ∀ (x1 : Int32) (x2 : Int32) (S : jS), k71 x1 x2 S = some z → jJ X (jMain D ad cy) 71 [(0, .ref (ad 12)), (1, .int x1), (2, .int x2)] [] S) (x1 : Int32) (x2 : Int32) (x3 : Int32) (S : jS) (hE : lp_X4_countOrders_17  k71 x1 x2 x3 S = some z) : jJ X (jMain D ad cy) 17 [(0, .ref (ad 12)), (1, .int x1), (2, .int x2), (3, .int x3)] [] S :=
  jloop_P (α := Int32 × Int32 × Int32 × jS) (B := (fun g q => f_X4_countOrders_17  (fun x1 x2 x3 S => g (x1, x2, x3, S)) k71 q.1 q.2.1 q.2.2.1 q.2.2.2)) (P := fun q => jJ X (jMain D ad cy) 17 [(0, .ref (ad 12)), (1, .int q.1), (2, .int q.2.1), (3, .int q.2.2.1)] [] q.2.2.2) (fun g q hg h => p_X4_countOrders_17 C Q (g := fun x1 x2 x3 S => g (x1, x2, x3, S)) (fun x1 x2 x3 S h => hg (x1, x2, x3, S) h) hk71 q.1 q.2.1 q.2.2.1 q.2.2.2 h) jN (x1, x2, x3, S) hE
set_option maxRecDepth 100000 in
theorem p_X4_countOrders_71 {X : jX} {D : va_G} {ad : Nat → Nat} {cy : Nat → ClassId} (C : jC X (jMain D ad cy) RX4 cX4_countOrders (some .int) 4 2 45) {z : Int32 × jS} (Q : jRet X (jMain D ad cy) (some (.int z.1), z.2)) {g : Int32 → Int32 → jS → Option (Int32 × jS)} (hg : ∀ (x1 : Int32) (x2 : Int32) (S : jS), g x1 x2 S = some z → jJ X (jMain D ad cy) 11 [(0, .ref (ad 12)), (1, .int x1), (2, .int x2)] [] S) {k77 : Int32 → jS → Option (Int32 × jS)} (hk77 : ∀ (x1 : Int32) (S : jS), k77 x1 S = some z → jJ X (jMain D ad cy) 77 [(0, .ref (ad 12)), (1, .int x1)] [] S) (x1 : Int32) (x2 : Int32) (S : jS) (hE : f_X4_countOrders_71  g k77 x1 x2 S = some z) : jJ X (jMain D ad cy) 71 [(0, .ref (ad 12)), (1, .int x1), (2, .int x2)] [] S := by
  unfold f_X4_countOrders_71 at hE
  refine j_iinc (v := (x2 + (-1))) (lv' := [(2, .int (x2 + (-1))), (0, .ref (ad 12)), (1, .int x1)]) C dX4_countOrders_71 2 rfl (congrArg (fun w => x2 + w) jc_ic_m1) (by decide) rfl ?_
  refine j_goto (tgt := 11) C dX4_countOrders_74 rfl ?_
  refine j_sub [1, 2, 0] rfl ?_
  exact hg x1 (x2 + (-1)) S hE
set_option maxRecDepth 100000 in
theorem p_X4_countOrders_11 {X : jX} {D : va_G} {ad : Nat → Nat} {cy : Nat → ClassId} (C : jC X (jMain D ad cy) RX4 cX4_countOrders (some .int) 4 2 45) {z : Int32 × jS} (Q : jRet X (jMain D ad cy) (some (.int z.1), z.2)) {g : Int32 → Int32 → jS → Option (Int32 × jS)} (hg : ∀ (x1 : Int32) (x2 : Int32) (S : jS), g x1 x2 S = some z → jJ X (jMain D ad cy) 11 [(0, .ref (ad 12)), (1, .int x1), (2, .int x2)] [] S) {k77 : Int32 → jS → Option (Int32 × jS)} (hk77 : ∀ (x1 : Int32) (S : jS), k77 x1 S = some z → jJ X (jMain D ad cy) 77 [(0, .ref (ad 12)), (1, .int x1)] [] S) (x1 : Int32) (x2 : Int32) (S : jS) (hE : f_X4_countOrders_11  g k77 x1 x2 S = some z) : jJ X (jMain D ad cy) 11 [(0, .ref (ad 12)), (1, .int x1), (2, .int x2)] [] S := by
  unfold f_X4_countOrders_11 at hE
  refine j_iload_n C dX4_countOrders_11 2 rfl ?_
  refine j_if_le (tgt := 77) C dX4_countOrders_12 rfl hE (fun hE => ?_) (fun hE => ?_)
  · refine j_sub [0, 1] rfl ?_
    exact hk77 x1 S hE
  · refine j_iconst (v := 0) C dX4_countOrders_15 jc_ic_0 ?_
    refine j_istore_n (i := 3) (lv' := [(3, .int 0), (0, .ref (ad 12)), (1, .int x1), (2, .int x2)]) C dX4_countOrders_16 rfl (by decide) rfl ?_
    refine j_sub [1, 2, 3, 0] rfl ?_
    exact q_X4_countOrders_17 C Q (p_X4_countOrders_71 C Q hg hk77) x1 x2 0 S hE
theorem q_X4_countOrders_11 {X : jX} {D : va_G} {ad : Nat → Nat} {cy : Nat → ClassId} (C : jC X (jMain D ad cy) RX4 cX4_countOrders (some .int) 4 2 45) {z : Int32 × jS} (Q : jRet X (jMain D ad cy) (some (.int z.1), z.2)) {k77 : Int32 → jS → Option (Int32 × jS)} (hk77 : ∀ (x1 : Int32) (S : jS), k77 x1 S = some z → jJ X (jMain D ad cy) 77 [(0, .ref (ad 12)), (1, .int x1)] [] S) (x1 : Int32) (x2 : Int32) (S : jS) (hE : lp_X4_countOrders_11  k77 x1 x2 S = some z) : jJ X (jMain D ad cy) 11 [(0, .ref (ad 12)), (1, .int x1), (2, .int x2)] [] S :=
  jloop_P (α := Int32 × Int32 × jS) (B := (fun g q => f_X4_countOrders_11  (fun x1 x2 S => g (x1, x2, S)) k77 q.1 q.2.1 q.2.2)) (P := fun q => jJ X (jMain D ad cy) 11 [(0, .ref (ad 12)), (1, .int q.1), (2, .int q.2.1)] [] q.2.2) (fun g q hg h => p_X4_countOrders_11 C Q (g := fun x1 x2 S => g (x1, x2, S)) (fun x1 x2 S h => hg (x1, x2, S) h) hk77 q.1 q.2.1 q.2.2 h) jN (x1, x2, S) hE
set_option maxRecDepth 100000 in
theorem p_X4_countOrders_96 {X : jX} {D : va_G} {ad : Nat → Nat} {cy : Nat → ClassId} (C : jC X (jMain D ad cy) RX4 cX4_countOrders (some .int) 4 2 45) {z : Int32 × jS} (Q : jRet X (jMain D ad cy) (some (.int z.1), z.2))  (a0 : Int32) (S : jS) (hE : f_X4_countOrders_96   a0 S = some z) : jJ X (jMain D ad cy) 96 [] [.int a0] S := by
  unfold f_X4_countOrders_96 at hE
  exact j_iret C Q dX4_countOrders_96 hE
set_option maxRecDepth 100000 in
theorem p_X4_countOrders_77 {X : jX} {D : va_G} {ad : Nat → Nat} {cy : Nat → ClassId} (C : jC X (jMain D ad cy) RX4 cX4_countOrders (some .int) 4 2 45) {z : Int32 × jS} (Q : jRet X (jMain D ad cy) (some (.int z.1), z.2))  (x1 : Int32) (S : jS) (hE : f_X4_countOrders_77   x1 S = some z) : jJ X (jMain D ad cy) 77 [(0, .ref (ad 12)), (1, .int x1)] [] S := by
  unfold f_X4_countOrders_77 at hE
  refine j_iload_n C dX4_countOrders_77 1 rfl ?_
  refine j_if_ne (tgt := 85) C dX4_countOrders_78 rfl hE (fun hE => ?_) (fun hE => ?_)
  · refine j_aload_n C dX4_countOrders_85 0 rfl ?_
    refine j_iconst (v := 0) C dX4_countOrders_86 jc_ic_0 ?_
    refine j_aload_n C dX4_countOrders_87 0 rfl ?_
    refine j_iconst (v := 0) C dX4_countOrders_88 jc_ic_0 ?_
    refine j_iconst (v := 0) C dX4_countOrders_89 jc_ic_0 ?_
    refine k_X4_51_X4_comers C dX4_countOrders_90 hE (Nat.le_of_ble_eq_true rfl) (Nat.le_of_ble_eq_true rfl) (Nat.le_of_ble_eq_true rfl) (fun v2 S1 hE => ?_)
    refine k_X4_55_X4_sumOver C dX4_countOrders_93 hE (Nat.le_of_ble_eq_true rfl) (Nat.le_of_ble_eq_true rfl) (Nat.le_of_ble_eq_true rfl) (fun v4 S3 hE => ?_)
    refine j_sub [] rfl ?_
    exact p_X4_countOrders_96 C Q  v4 S3 hE
  · refine j_iconst (v := 1) C dX4_countOrders_81 jc_ic_1 ?_
    refine j_goto (tgt := 96) C dX4_countOrders_82 rfl ?_
    refine j_sub [] rfl ?_
    exact p_X4_countOrders_96 C Q  1 S hE
set_option maxRecDepth 100000 in
theorem p_X4_countOrders_e {X : jX} {D : va_G} {ad : Nat → Nat} {cy : Nat → ClassId} (C : jC X (jMain D ad cy) RX4 cX4_countOrders (some .int) 4 2 45) {z : Int32 × jS} (Q : jRet X (jMain D ad cy) (some (.int z.1), z.2))   (S : jS) (hE : f_X4_countOrders_e    S = some z) : jJ X (jMain D ad cy) 0 [(0, .ref (ad 12))] [] S := by
  unfold f_X4_countOrders_e at hE
  refine j_iconst (v := 1) C dX4_countOrders_0 jc_ic_1 ?_
  refine j_aload_n C dX4_countOrders_1 0 rfl ?_
  refine g_X4_41_12 C dX4_countOrders_2 ?_
  refine j_ishl C dX4_countOrders_5 ?_
  refine j_iconst (v := 1) C dX4_countOrders_6 jc_ic_1 ?_
  refine j_isub C dX4_countOrders_7 ?_
  refine j_istore_n (i := 1) (lv' := [(1, .int ((1 <<< ((S.1 12 6) &&& 31)) - 1)), (0, .ref (ad 12))]) C dX4_countOrders_8 rfl (by decide) rfl ?_
  refine j_iload_n C dX4_countOrders_9 0 rfl ?_
  refine j_istore_n (i := 2) (lv' := [(2, .int ((1 <<< ((S.1 12 6) &&& 31)) - 1)), (1, .int ((1 <<< ((S.1 12 6) &&& 31)) - 1)), (0, .ref (ad 12))]) C dX4_countOrders_10 rfl (by decide) rfl ?_
  refine j_sub [2, 1, 0] rfl ?_
  exact q_X4_countOrders_11 C Q (p_X4_countOrders_77 C Q ) ((1 <<< ((S.1 12 6) &&& 31)) - 1) ((1 <<< ((S.1 12 6) &&& 31)) - 1) S hE
theorem c_X4_countOrders {l : Launch} {D : va_G} {ad : Nat → Nat} {cy : Nat → ClassId} (hO : jOk (jMain D ad cy))  (S : jS) {z : Int32 × jS} (hz : f_X4_countOrders  S = some z) : Met l yX4_countOrders (.code yX4_countOrders cX4_countOrders 4 (some .int) :: jT) { frames := 2, cells := 0, slots := 0, locals := 45 } (va_Pc [.ref (ad 12)] (jInv (jMain D ad cy) S)) (jQ (jMain D ad cy) (some (.int z.1), z.2)) 0 0 (yA (jMain D ad cy)) :=
  jMet hO (by decide +kernel) rfl (Nat.le_of_ble_eq_true rfl) (fun X _ C Q => p_X4_countOrders_e C Q  S hz)
theorem k_X11_178_X4_countOrders {X : jX} {D : va_G} {ad : Nat → Nat} {cy : Nat → ClassId} {cc : ByteArray} {ret : Option FieldType} {nL fr lo pc : Nat} {lv : List (Nat × Value)} {st : List Value} {S : jS} {β : Type} {z : β} (C : jC X (jMain D ad cy) RX11 cc ret nL fr lo)  {E : Int32 → jS → Option β} (d : decode cc pc = .ok (.invokevirtual 178, 3)) (hE : jcl (f_X4_countOrders  S) E = some z) (hfr : 3 ≤ fr) (hlo : 68 ≤ lo) (hst : (st.map fun v => v.category).sum ≤ 8) (K : ∀ (v : Int32) (S1 : jS), E v S1 = some z → jJ X (jMain D ad cy) (pc + 3) lv (.int v :: st) S1) : jJ X (jMain D ad cy) pc lv (.ref (ad 12) :: st) S := by
  obtain ⟨v, h1, h2⟩ := jcl_some hE
  exact j_callV (k := 12) (ci := 4) (T := TX4) (N := 7) (n := 0) (As := []) C (c_X4_countOrders C.2.2.2.2.2.2.1  S h1) tw_631 tw_632 tw_633 tw_78 tw_634 (by decide +kernel) rfl (by decide : 12 < 56) rfl rfl hfr hlo hst rfl d (K _ _ h2)
set_option maxRecDepth 100000 in
theorem p_X4_firstComer_39 {X : jX} {D : va_G} {ad : Nat → Nat} {cy : Nat → ClassId} (C : jC X (jMain D ad cy) RX4 cX4_firstComer (some .int) 4 0 0) {z : Int32 × jS} (Q : jRet X (jMain D ad cy) (some (.int z.1), z.2)) {g : Int32 → Int32 → Int32 → jS → Option (Int32 × jS)} (hg : ∀ (x1 : Int32) (x2 : Int32) (x3 : Int32) (S : jS), g x1 x2 x3 S = some z → jJ X (jMain D ad cy) 2 [(0, .ref (ad 12)), (1, .int x1), (2, .int x2), (3, .int x3)] [] S) {k37 : Int32 → jS → Option (Int32 × jS)} (hk37 : ∀ (x3 : Int32) (S : jS), k37 x3 S = some z → jJ X (jMain D ad cy) 37 [(3, .int x3)] [] S) {k45 : jS → Option (Int32 × jS)} (hk45 : ∀  (S : jS), k45  S = some z → jJ X (jMain D ad cy) 45 [] [] S) (x1 : Int32) (x2 : Int32) (x3 : Int32) (S : jS) (hE : f_X4_firstComer_39  g k37 k45 x1 x2 x3 S = some z) : jJ X (jMain D ad cy) 39 [(0, .ref (ad 12)), (1, .int x1), (2, .int x2), (3, .int x3)] [] S := by
  unfold f_X4_firstComer_39 at hE
  refine j_iinc (v := (x3 + 1)) (lv' := [(3, .int (x3 + 1)), (0, .ref (ad 12)), (1, .int x1), (2, .int x2)]) C dX4_firstComer_39 3 rfl (congrArg (fun w => x3 + w) jc_ic_1) (by decide) rfl ?_
  refine j_goto (tgt := 2) C dX4_firstComer_42 rfl ?_
  refine j_sub [1, 2, 3, 0] rfl ?_
  exact hg x1 x2 (x3 + 1) S hE
set_option maxRecDepth 100000 in
theorem p_X4_firstComer_2 {X : jX} {D : va_G} {ad : Nat → Nat} {cy : Nat → ClassId} (C : jC X (jMain D ad cy) RX4 cX4_firstComer (some .int) 4 0 0) {z : Int32 × jS} (Q : jRet X (jMain D ad cy) (some (.int z.1), z.2)) {g : Int32 → Int32 → Int32 → jS → Option (Int32 × jS)} (hg : ∀ (x1 : Int32) (x2 : Int32) (x3 : Int32) (S : jS), g x1 x2 x3 S = some z → jJ X (jMain D ad cy) 2 [(0, .ref (ad 12)), (1, .int x1), (2, .int x2), (3, .int x3)] [] S) {k37 : Int32 → jS → Option (Int32 × jS)} (hk37 : ∀ (x3 : Int32) (S : jS), k37 x3 S = some z → jJ X (jMain D ad cy) 37 [(3, .int x3)] [] S) {k45 : jS → Option (Int32 × jS)} (hk45 : ∀  (S : jS), k45  S = some z → jJ X (jMain D ad cy) 45 [] [] S) (x1 : Int32) (x2 : Int32) (x3 : Int32) (S : jS) (hE : f_X4_firstComer_2  g k37 k45 x1 x2 x3 S = some z) : jJ X (jMain D ad cy) 2 [(0, .ref (ad 12)), (1, .int x1), (2, .int x2), (3, .int x3)] [] S := by
  unfold f_X4_firstComer_2 at hE
  refine j_iload_n C dX4_firstComer_2 3 rfl ?_
  refine j_aload_n C dX4_firstComer_3 0 rfl ?_
  refine g_X4_41_12 C dX4_firstComer_4 ?_
  refine j_icmp_ge (tgt := 45) C dX4_firstComer_7 rfl hE (fun hE => ?_) (fun hE => ?_)
  · refine j_sub [] rfl ?_
    exact hk45  S hE
  · refine j_iload_n C dX4_firstComer_10 2 rfl ?_
    refine j_iload_n C dX4_firstComer_11 3 rfl ?_
    refine j_ishr C dX4_firstComer_12 ?_
    refine j_iconst (v := 1) C dX4_firstComer_13 jc_ic_1 ?_
    refine j_iand C dX4_firstComer_14 ?_
    refine j_iconst (v := 1) C dX4_firstComer_15 jc_ic_1 ?_
    refine j_icmp_ne (tgt := 39) C dX4_firstComer_16 rfl hE (fun hE => ?_) (fun hE => ?_)
    · exact p_X4_firstComer_39 C Q hg hk37 hk45 x1 x2 x3 S hE
    · refine j_aload_n C dX4_firstComer_19 0 rfl ?_
      refine g_X4_21_12 C dX4_firstComer_20 ?_
      refine j_iload_n C dX4_firstComer_23 1 rfl ?_
      refine j_iconst (v := 1) C dX4_firstComer_24 jc_ic_1 ?_
      refine j_iload_n C dX4_firstComer_25 3 rfl ?_
      refine j_ishl C dX4_firstComer_26 ?_
      refine j_ior C dX4_firstComer_27 ?_
      refine j_bipush (v := 8) C dX4_firstComer_28 jc_bp_8 ?_
      refine j_imul C dX4_firstComer_30 ?_
      refine j_iload_n C dX4_firstComer_31 3 rfl ?_
      refine j_iadd C dX4_firstComer_32 ?_
      refine l_16 C dX4_firstComer_33 hE (fun v1 hE => ?_)
      refine j_if_le (tgt := 39) C dX4_firstComer_34 rfl hE (fun hE => ?_) (fun hE => ?_)
      · exact p_X4_firstComer_39 C Q hg hk37 hk45 x1 x2 x3 S hE
      · refine j_sub [3] rfl ?_
        exact hk37 x3 S hE
theorem q_X4_firstComer_2 {X : jX} {D : va_G} {ad : Nat → Nat} {cy : Nat → ClassId} (C : jC X (jMain D ad cy) RX4 cX4_firstComer (some .int) 4 0 0) {z : Int32 × jS} (Q : jRet X (jMain D ad cy) (some (.int z.1), z.2)) {k37 : Int32 → jS → Option (Int32 × jS)} (hk37 : ∀ (x3 : Int32) (S : jS), k37 x3 S = some z → jJ X (jMain D ad cy) 37 [(3, .int x3)] [] S) {k45 : jS → Option (Int32 × jS)} (hk45 : ∀  (S : jS), k45  S = some z → jJ X (jMain D ad cy) 45 [] [] S) (x1 : Int32) (x2 : Int32) (x3 : Int32) (S : jS) (hE : lp_X4_firstComer_2  k37 k45 x1 x2 x3 S = some z) : jJ X (jMain D ad cy) 2 [(0, .ref (ad 12)), (1, .int x1), (2, .int x2), (3, .int x3)] [] S :=
  jloop_P (α := Int32 × Int32 × Int32 × jS) (B := (fun g q => f_X4_firstComer_2  (fun x1 x2 x3 S => g (x1, x2, x3, S)) k37 k45 q.1 q.2.1 q.2.2.1 q.2.2.2)) (P := fun q => jJ X (jMain D ad cy) 2 [(0, .ref (ad 12)), (1, .int q.1), (2, .int q.2.1), (3, .int q.2.2.1)] [] q.2.2.2) (fun g q hg h => p_X4_firstComer_2 C Q (g := fun x1 x2 x3 S => g (x1, x2, x3, S)) (fun x1 x2 x3 S h => hg (x1, x2, x3, S) h) hk37 hk45 q.1 q.2.1 q.2.2.1 q.2.2.2 h) jN (x1, x2, x3, S) hE
set_option maxRecDepth 100000 in
theorem p_X4_firstComer_37 {X : jX} {D : va_G} {ad : Nat → Nat} {cy : Nat → ClassId} (C : jC X (jMain D ad cy) RX4 cX4_firstComer (some .int) 4 0 0) {z : Int32 × jS} (Q : jRet X (jMain D ad cy) (some (.int z.1), z.2))  (x3 : Int32) (S : jS) (hE : f_X4_firstComer_37   x3 S = some z) : jJ X (jMain D ad cy) 37 [(3, .int x3)] [] S := by
  unfold f_X4_firstComer_37 at hE
  refine j_iload_n C dX4_firstComer_37 0 rfl ?_
  exact j_iret C Q dX4_firstComer_38 hE
set_option maxRecDepth 100000 in
theorem p_X4_firstComer_45 {X : jX} {D : va_G} {ad : Nat → Nat} {cy : Nat → ClassId} (C : jC X (jMain D ad cy) RX4 cX4_firstComer (some .int) 4 0 0) {z : Int32 × jS} (Q : jRet X (jMain D ad cy) (some (.int z.1), z.2))   (S : jS) (hE : f_X4_firstComer_45    S = some z) : jJ X (jMain D ad cy) 45 [] [] S := by
  unfold f_X4_firstComer_45 at hE
  refine j_iconst (v := 0) C dX4_firstComer_45 jc_ic_0 ?_
  exact j_iret C Q dX4_firstComer_46 hE
set_option maxRecDepth 100000 in
theorem p_X4_firstComer_e {X : jX} {D : va_G} {ad : Nat → Nat} {cy : Nat → ClassId} (C : jC X (jMain D ad cy) RX4 cX4_firstComer (some .int) 4 0 0) {z : Int32 × jS} (Q : jRet X (jMain D ad cy) (some (.int z.1), z.2))  (x1 : Int32) (x2 : Int32) (S : jS) (hE : f_X4_firstComer_e   x1 x2 S = some z) : jJ X (jMain D ad cy) 0 [(0, .ref (ad 12)), (1, .int x1), (2, .int x2)] [] S := by
  unfold f_X4_firstComer_e at hE
  refine j_iconst (v := 0) C dX4_firstComer_0 jc_ic_0 ?_
  refine j_istore_n (i := 3) (lv' := [(3, .int 0), (0, .ref (ad 12)), (1, .int x1), (2, .int x2)]) C dX4_firstComer_1 rfl (by decide) rfl ?_
  refine j_sub [1, 2, 3, 0] rfl ?_
  exact q_X4_firstComer_2 C Q (p_X4_firstComer_37 C Q ) (p_X4_firstComer_45 C Q ) x1 x2 0 S hE
theorem c_X4_firstComer {l : Launch} {D : va_G} {ad : Nat → Nat} {cy : Nat → ClassId} (hO : jOk (jMain D ad cy)) (x1 : Int32) (x2 : Int32) (S : jS) {z : Int32 × jS} (hz : f_X4_firstComer x1 x2 S = some z) : Met l yX4_firstComer (.code yX4_firstComer cX4_firstComer 4 (some .int) :: jT) { frames := 0, cells := 0, slots := 0, locals := 0 } (va_Pc [.ref (ad 12), .int x1, .int x2] (jInv (jMain D ad cy) S)) (jQ (jMain D ad cy) (some (.int z.1), z.2)) 0 0 (yA (jMain D ad cy)) :=
  jMet hO (by decide +kernel) rfl (Nat.le_of_ble_eq_true rfl) (fun X _ C Q => p_X4_firstComer_e C Q x1 x2 S hz)
theorem k_X4_58_X4_firstComer {X : jX} {D : va_G} {ad : Nat → Nat} {cy : Nat → ClassId} {cc : ByteArray} {ret : Option FieldType} {nL fr lo pc : Nat} {lv : List (Nat × Value)} {st : List Value} {S : jS} {β : Type} {z : β} (C : jC X (jMain D ad cy) RX4 cc ret nL fr lo) {a0 : Int32} {a1 : Int32} {E : Int32 → jS → Option β} (d : decode cc pc = .ok (.invokevirtual 58, 3)) (hE : jcl (f_X4_firstComer a0 a1 S) E = some z) (hfr : 1 ≤ fr) (hlo : 23 ≤ lo) (hst : (st.map fun v => v.category).sum ≤ 8) (K : ∀ (v : Int32) (S1 : jS), E v S1 = some z → jJ X (jMain D ad cy) (pc + 3) lv (.int v :: st) S1) : jJ X (jMain D ad cy) pc lv (.int a1 :: .int a0 :: .ref (ad 12) :: st) S := by
  obtain ⟨v, h1, h2⟩ := jcl_some hE
  exact j_callV (k := 12) (ci := 4) (T := TX4) (N := 7) (n := 2) (As := [.int a0, .int a1]) C (c_X4_firstComer C.2.2.2.2.2.2.1 a0 a1 S h1) tw_647 tw_649 tw_17 tw_78 tw_650 (by decide +kernel) rfl (by decide : 12 < 56) rfl rfl hfr hlo hst rfl d (K _ _ h2)
set_option maxRecDepth 100000 in
theorem p_X4_inFirstOrder_7 {X : jX} {D : va_G} {ad : Nat → Nat} {cy : Nat → ClassId} (C : jC X (jMain D ad cy) RX4 cX4_inFirstOrder (some .int) 5 2 45) {z : Int32 × jS} (Q : jRet X (jMain D ad cy) (some (.int z.1), z.2)) {g : Int32 → Int32 → Int32 → Int32 → jS → Option (Int32 × jS)} (hg : ∀ (x1 : Int32) (x2 : Int32) (x3 : Int32) (x4 : Int32) (S : jS), g x1 x2 x3 x4 S = some z → jJ X (jMain D ad cy) 7 [(0, .ref (ad 12)), (1, .int x1), (2, .int x2), (3, .int x3), (4, .int x4)] [] S) {k45 : Int32 → jS → Option (Int32 × jS)} (hk45 : ∀ (x3 : Int32) (S : jS), k45 x3 S = some z → jJ X (jMain D ad cy) 45 [(0, .ref (ad 12)), (3, .int x3)] [] S) {k58 : jS → Option (Int32 × jS)} (hk58 : ∀  (S : jS), k58  S = some z → jJ X (jMain D ad cy) 58 [] [] S) (x1 : Int32) (x2 : Int32) (x3 : Int32) (x4 : Int32) (S : jS) (hE : f_X4_inFirstOrder_7  g k45 k58 x1 x2 x3 x4 S = some z) : jJ X (jMain D ad cy) 7 [(0, .ref (ad 12)), (1, .int x1), (2, .int x2), (3, .int x3), (4, .int x4)] [] S := by
  unfold f_X4_inFirstOrder_7 at hE
  refine j_iload C dX4_inFirstOrder_7 4 rfl ?_
  refine j_aload_n C dX4_inFirstOrder_9 0 rfl ?_
  refine g_X4_41_12 C dX4_inFirstOrder_10 ?_
  refine j_icmp_ge (tgt := 58) C dX4_inFirstOrder_13 rfl hE (fun hE => ?_) (fun hE => ?_)
  · refine j_sub [] rfl ?_
    exact hk58  S hE
  · refine j_aload_n C dX4_inFirstOrder_16 0 rfl ?_
    refine j_iload_n C dX4_inFirstOrder_17 2 rfl ?_
    refine j_aload_n C dX4_inFirstOrder_18 0 rfl ?_
    refine j_iload_n C dX4_inFirstOrder_19 2 rfl ?_
    refine j_iload_n C dX4_inFirstOrder_20 3 rfl ?_
    refine k_X4_51_X4_comers C dX4_inFirstOrder_21 hE (Nat.le_of_ble_eq_true rfl) (Nat.le_of_ble_eq_true rfl) (Nat.le_of_ble_eq_true rfl) (fun v2 S1 hE => ?_)
    refine k_X4_58_X4_firstComer C dX4_inFirstOrder_24 hE (Nat.le_of_ble_eq_true rfl) (Nat.le_of_ble_eq_true rfl) (Nat.le_of_ble_eq_true rfl) (fun v4 S3 hE => ?_)
    refine j_istore_n (i := 3) (lv' := [(3, .int v4), (0, .ref (ad 12)), (1, .int x1), (2, .int x2), (4, .int x4)]) C dX4_inFirstOrder_27 rfl (by decide) rfl ?_
    refine j_iload_n C dX4_inFirstOrder_28 3 rfl ?_
    refine j_iconst (v := 1) C dX4_inFirstOrder_29 jc_ic_1 ?_
    refine j_iload_n C dX4_inFirstOrder_30 0 rfl ?_
    refine j_ishl C dX4_inFirstOrder_31 ?_
    refine j_ior C dX4_inFirstOrder_32 ?_
    refine j_istore_n (i := 2) (lv' := [(2, .int (x2 ||| (1 <<< (v4 &&& 31)))), (3, .int v4), (0, .ref (ad 12)), (1, .int x1), (4, .int x4)]) C dX4_inFirstOrder_33 rfl (by decide) rfl ?_
    refine j_aload_n C dX4_inFirstOrder_34 2 rfl ?_
    refine g_X4_15_12 C dX4_inFirstOrder_35 ?_
    refine j_iload C dX4_inFirstOrder_38 4 rfl ?_
    refine l_14 C dX4_inFirstOrder_40 hE (fun v5 hE => ?_)
    refine j_iload_n C dX4_inFirstOrder_41 3 rfl ?_
    refine j_icmp_ne (tgt := 52) C dX4_inFirstOrder_42 rfl hE (fun hE => ?_) (fun hE => ?_)
    · refine j_iinc (v := (x4 + 1)) (lv' := [(4, .int (x4 + 1)), (2, .int (x2 ||| (1 <<< (v4 &&& 31)))), (3, .int v4), (0, .ref (ad 12)), (1, .int x1)]) C dX4_inFirstOrder_52 4 rfl (congrArg (fun w => x4 + w) jc_ic_1) (by decide) rfl ?_
      refine j_goto (tgt := 7) C dX4_inFirstOrder_55 rfl ?_
      refine j_sub [3, 4, 1, 2, 0] rfl ?_
      exact hg x1 (x2 ||| (1 <<< (v4 &&& 31))) v4 (x4 + 1) S3 hE
    · refine j_sub [2, 1] rfl ?_
      exact hk45 v4 S3 hE
theorem q_X4_inFirstOrder_7 {X : jX} {D : va_G} {ad : Nat → Nat} {cy : Nat → ClassId} (C : jC X (jMain D ad cy) RX4 cX4_inFirstOrder (some .int) 5 2 45) {z : Int32 × jS} (Q : jRet X (jMain D ad cy) (some (.int z.1), z.2)) {k45 : Int32 → jS → Option (Int32 × jS)} (hk45 : ∀ (x3 : Int32) (S : jS), k45 x3 S = some z → jJ X (jMain D ad cy) 45 [(0, .ref (ad 12)), (3, .int x3)] [] S) {k58 : jS → Option (Int32 × jS)} (hk58 : ∀  (S : jS), k58  S = some z → jJ X (jMain D ad cy) 58 [] [] S) (x1 : Int32) (x2 : Int32) (x3 : Int32) (x4 : Int32) (S : jS) (hE : lp_X4_inFirstOrder_7  k45 k58 x1 x2 x3 x4 S = some z) : jJ X (jMain D ad cy) 7 [(0, .ref (ad 12)), (1, .int x1), (2, .int x2), (3, .int x3), (4, .int x4)] [] S :=
  jloop_P (α := Int32 × Int32 × Int32 × Int32 × jS) (B := (fun g q => f_X4_inFirstOrder_7  (fun x1 x2 x3 x4 S => g (x1, x2, x3, x4, S)) k45 k58 q.1 q.2.1 q.2.2.1 q.2.2.2.1 q.2.2.2.2)) (P := fun q => jJ X (jMain D ad cy) 7 [(0, .ref (ad 12)), (1, .int q.1), (2, .int q.2.1), (3, .int q.2.2.1), (4, .int q.2.2.2.1)] [] q.2.2.2.2) (fun g q hg h => p_X4_inFirstOrder_7 C Q (g := fun x1 x2 x3 x4 S => g (x1, x2, x3, x4, S)) (fun x1 x2 x3 x4 S h => hg (x1, x2, x3, x4, S) h) hk45 hk58 q.1 q.2.1 q.2.2.1 q.2.2.2.1 q.2.2.2.2 h) jN (x1, x2, x3, x4, S) hE
set_option maxRecDepth 100000 in
theorem p_X4_inFirstOrder_45 {X : jX} {D : va_G} {ad : Nat → Nat} {cy : Nat → ClassId} (C : jC X (jMain D ad cy) RX4 cX4_inFirstOrder (some .int) 5 2 45) {z : Int32 × jS} (Q : jRet X (jMain D ad cy) (some (.int z.1), z.2))  (x3 : Int32) (S : jS) (hE : f_X4_inFirstOrder_45   x3 S = some z) : jJ X (jMain D ad cy) 45 [(0, .ref (ad 12)), (3, .int x3)] [] S := by
  unfold f_X4_inFirstOrder_45 at hE
  refine j_aload_n C dX4_inFirstOrder_45 0 rfl ?_
  refine g_X4_9_12 C dX4_inFirstOrder_46 ?_
  refine j_iload_n C dX4_inFirstOrder_49 1 rfl ?_
  refine l_13 C dX4_inFirstOrder_50 hE (fun v1 hE => ?_)
  exact j_iret C Q dX4_inFirstOrder_51 hE
set_option maxRecDepth 100000 in
theorem p_X4_inFirstOrder_58 {X : jX} {D : va_G} {ad : Nat → Nat} {cy : Nat → ClassId} (C : jC X (jMain D ad cy) RX4 cX4_inFirstOrder (some .int) 5 2 45) {z : Int32 × jS} (Q : jRet X (jMain D ad cy) (some (.int z.1), z.2))   (S : jS) (hE : f_X4_inFirstOrder_58    S = some z) : jJ X (jMain D ad cy) 58 [] [] S := by
  unfold f_X4_inFirstOrder_58 at hE
  refine j_iconst (v := 0) C dX4_inFirstOrder_58 jc_ic_0 ?_
  exact j_iret C Q dX4_inFirstOrder_59 hE
set_option maxRecDepth 100000 in
theorem p_X4_inFirstOrder_e {X : jX} {D : va_G} {ad : Nat → Nat} {cy : Nat → ClassId} (C : jC X (jMain D ad cy) RX4 cX4_inFirstOrder (some .int) 5 2 45) {z : Int32 × jS} (Q : jRet X (jMain D ad cy) (some (.int z.1), z.2))  (x1 : Int32) (S : jS) (hE : f_X4_inFirstOrder_e   x1 S = some z) : jJ X (jMain D ad cy) 0 [(0, .ref (ad 12)), (1, .int x1)] [] S := by
  unfold f_X4_inFirstOrder_e at hE
  refine j_iconst (v := 0) C dX4_inFirstOrder_0 jc_ic_0 ?_
  refine j_istore_n (i := 2) (lv' := [(2, .int 0), (0, .ref (ad 12)), (1, .int x1)]) C dX4_inFirstOrder_1 rfl (by decide) rfl ?_
  refine j_iconst (v := 0) C dX4_inFirstOrder_2 jc_ic_0 ?_
  refine j_istore_n (i := 3) (lv' := [(3, .int 0), (2, .int 0), (0, .ref (ad 12)), (1, .int x1)]) C dX4_inFirstOrder_3 rfl (by decide) rfl ?_
  refine j_iconst (v := 0) C dX4_inFirstOrder_4 jc_ic_0 ?_
  refine j_istore (lv' := [(4, .int 0), (3, .int 0), (2, .int 0), (0, .ref (ad 12)), (1, .int x1)]) C dX4_inFirstOrder_5 (by decide) rfl ?_
  refine j_sub [3, 4, 2, 1, 0] rfl ?_
  exact q_X4_inFirstOrder_7 C Q (p_X4_inFirstOrder_45 C Q ) (p_X4_inFirstOrder_58 C Q ) x1 0 0 0 S hE
theorem c_X4_inFirstOrder {l : Launch} {D : va_G} {ad : Nat → Nat} {cy : Nat → ClassId} (hO : jOk (jMain D ad cy)) (x1 : Int32) (S : jS) {z : Int32 × jS} (hz : f_X4_inFirstOrder x1 S = some z) : Met l yX4_inFirstOrder (.code yX4_inFirstOrder cX4_inFirstOrder 5 (some .int) :: jT) { frames := 2, cells := 0, slots := 0, locals := 45 } (va_Pc [.ref (ad 12), .int x1] (jInv (jMain D ad cy) S)) (jQ (jMain D ad cy) (some (.int z.1), z.2)) 0 0 (yA (jMain D ad cy)) :=
  jMet hO (by decide +kernel) rfl (Nat.le_of_ble_eq_true rfl) (fun X _ C Q => p_X4_inFirstOrder_e C Q x1 S hz)
theorem k_X11_181_X4_inFirstOrder {X : jX} {D : va_G} {ad : Nat → Nat} {cy : Nat → ClassId} {cc : ByteArray} {ret : Option FieldType} {nL fr lo pc : Nat} {lv : List (Nat × Value)} {st : List Value} {S : jS} {β : Type} {z : β} (C : jC X (jMain D ad cy) RX11 cc ret nL fr lo) {a0 : Int32} {E : Int32 → jS → Option β} (d : decode cc pc = .ok (.invokevirtual 181, 3)) (hE : jcl (f_X4_inFirstOrder a0 S) E = some z) (hfr : 3 ≤ fr) (hlo : 69 ≤ lo) (hst : (st.map fun v => v.category).sum ≤ 8) (K : ∀ (v : Int32) (S1 : jS), E v S1 = some z → jJ X (jMain D ad cy) (pc + 3) lv (.int v :: st) S1) : jJ X (jMain D ad cy) pc lv (.int a0 :: .ref (ad 12) :: st) S := by
  obtain ⟨v, h1, h2⟩ := jcl_some hE
  exact j_callV (k := 12) (ci := 4) (T := TX4) (N := 7) (n := 1) (As := [.int a0]) C (c_X4_inFirstOrder C.2.2.2.2.2.2.1 a0 S h1) tw_643 tw_644 tw_645 tw_78 tw_646 (by decide +kernel) rfl (by decide : 12 < 56) rfl rfl hfr hlo hst rfl d (K _ _ h2)
set_option maxRecDepth 100000 in
theorem p_X11_refuseBadApart_e {X : jX} {D : va_G} {ad : Nat → Nat} {cy : Nat → ClassId} (C : jC X (jMain D ad cy) RX11 cX11_refuseBadApart (some .int) 1 0 0) {z : Int32 × jS} (Q : jRet X (jMain D ad cy) (some (.int z.1), z.2))   (S : jS) (hE : f_X11_refuseBadApart_e    S = some z) : jJ X (jMain D ad cy) 0 [(0, .ref (ad 0))] [] S := by
  unfold f_X11_refuseBadApart_e at hE
  refine j_aload_n C dX11_refuseBadApart_0 0 rfl ?_
  refine j_dup C dX11_refuseBadApart_1 rfl ?_
  refine g_X11_273_0 C dX11_refuseBadApart_2 ?_
  refine j_iconst (v := 1) C dX11_refuseBadApart_5 jc_ic_1 ?_
  refine j_iadd C dX11_refuseBadApart_6 ?_
  refine p_X11_273_0 C dX11_refuseBadApart_7 hE (fun S1 hE => ?_)
  refine j_bipush (v := (-10)) C dX11_refuseBadApart_10 jc_bp_m10 ?_
  exact j_iret C Q dX11_refuseBadApart_12 hE
theorem c_X11_refuseBadApart {l : Launch} {D : va_G} {ad : Nat → Nat} {cy : Nat → ClassId} (hO : jOk (jMain D ad cy))  (S : jS) {z : Int32 × jS} (hz : f_X11_refuseBadApart  S = some z) : Met l yX11_refuseBadApart (.code yX11_refuseBadApart cX11_refuseBadApart 1 (some .int) :: jT) { frames := 0, cells := 0, slots := 0, locals := 0 } (va_Pc [.ref (ad 0)] (jInv (jMain D ad cy) S)) (jQ (jMain D ad cy) (some (.int z.1), z.2)) 0 0 (yA (jMain D ad cy)) :=
  jMet hO (by decide +kernel) rfl (Nat.le_of_ble_eq_true rfl) (fun X _ C Q => p_X11_refuseBadApart_e C Q  S hz)
theorem k_X11_171_X11_refuseBadApart {X : jX} {D : va_G} {ad : Nat → Nat} {cy : Nat → ClassId} {cc : ByteArray} {ret : Option FieldType} {nL fr lo pc : Nat} {lv : List (Nat × Value)} {st : List Value} {S : jS} {β : Type} {z : β} (C : jC X (jMain D ad cy) RX11 cc ret nL fr lo)  {E : Int32 → jS → Option β} (d : decode cc pc = .ok (.invokevirtual 171, 3)) (hE : jcl (f_X11_refuseBadApart  S) E = some z) (hfr : 1 ≤ fr) (hlo : 20 ≤ lo) (hst : (st.map fun v => v.category).sum ≤ 8) (K : ∀ (v : Int32) (S1 : jS), E v S1 = some z → jJ X (jMain D ad cy) (pc + 3) lv (.int v :: st) S1) : jJ X (jMain D ad cy) pc lv (.ref (ad 0) :: st) S := by
  obtain ⟨v, h1, h2⟩ := jcl_some hE
  exact j_callV (k := 0) (ci := 11) (T := TX11) (N := 16) (n := 0) (As := []) C (c_X11_refuseBadApart C.2.2.2.2.2.2.1  S h1) tw_618 tw_620 tw_13 tw_69 tw_621 (by decide +kernel) rfl (by decide : 0 < 56) rfl rfl hfr hlo hst rfl d (K _ _ h2)
set_option maxRecDepth 100000 in
theorem p_X11_orders_69 {X : jX} {D : va_G} {ad : Nat → Nat} {cy : Nat → ClassId} (C : jC X (jMain D ad cy) RX11 cX11_orders (some .int) 3 5 119) {z : Int32 × jS} (Q : jRet X (jMain D ad cy) (some (.int z.1), z.2))  (a0 : Int32) (S : jS) (hE : f_X11_orders_69   a0 S = some z) : jJ X (jMain D ad cy) 69 [] [.int a0] S := by
  unfold f_X11_orders_69 at hE
  exact j_iret C Q dX11_orders_69 hE
set_option maxRecDepth 100000 in
theorem p_X11_orders_17 {X : jX} {D : va_G} {ad : Nat → Nat} {cy : Nat → ClassId} (C : jC X (jMain D ad cy) RX11 cX11_orders (some .int) 3 5 119) {z : Int32 × jS} (Q : jRet X (jMain D ad cy) (some (.int z.1), z.2))  (x1 : Int32) (S : jS) (hE : f_X11_orders_17   x1 S = some z) : jJ X (jMain D ad cy) 17 [(0, .ref (ad 0)), (1, .int x1)] [] S := by
  unfold f_X11_orders_17 at hE
  refine j_aload_n C dX11_orders_17 0 rfl ?_
  refine g_X11_30_0 C dX11_orders_18 ?_
  refine j_aload_n C dX11_orders_21 0 rfl ?_
  refine g_X11_44_0 C dX11_orders_22 ?_
  refine g_X11_85_21 C dX11_orders_25 ?_
  refine j_aload_n C dX11_orders_28 0 rfl ?_
  refine g_X11_44_0 C dX11_orders_29 ?_
  refine g_X11_96_21 C dX11_orders_32 ?_
  refine k_X11_174_X4_settle_r22 C dX11_orders_35 hE (Nat.le_of_ble_eq_true rfl) (Nat.le_of_ble_eq_true rfl) (Nat.le_of_ble_eq_true rfl) (fun S1 hE => ?_)
  refine j_aload_n C dX11_orders_38 0 rfl ?_
  refine g_X11_30_0 C dX11_orders_39 ?_
  refine k_X11_178_X4_countOrders C dX11_orders_42 hE (Nat.le_of_ble_eq_true rfl) (Nat.le_of_ble_eq_true rfl) (Nat.le_of_ble_eq_true rfl) (fun v3 S2 hE => ?_)
  refine j_istore_n (i := 2) (lv' := [(2, .int v3), (0, .ref (ad 0)), (1, .int x1)]) C dX11_orders_45 rfl (by decide) rfl ?_
  refine j_iload_n C dX11_orders_46 2 rfl ?_
  refine j_iconst (v := (-1)) C dX11_orders_47 jc_ic_m1 ?_
  refine j_icmp_ne (tgt := 53) C dX11_orders_48 rfl hE (fun hE => ?_) (fun hE => ?_)
  · refine j_iload_n C dX11_orders_53 0 rfl ?_
    refine j_if_ne (tgt := 61) C dX11_orders_54 rfl hE (fun hE => ?_) (fun hE => ?_)
    · refine j_aload_n C dX11_orders_61 1 rfl ?_
      refine g_X11_30_0 C dX11_orders_62 ?_
      refine j_iload_n C dX11_orders_65 2 rfl ?_
      refine k_X11_181_X4_inFirstOrder C dX11_orders_66 hE (Nat.le_of_ble_eq_true rfl) (Nat.le_of_ble_eq_true rfl) (Nat.le_of_ble_eq_true rfl) (fun v5 S4 hE => ?_)
      refine j_sub [] rfl ?_
      exact p_X11_orders_69 C Q  v5 S4 hE
    · refine j_iconst (v := (-1)) C dX11_orders_57 jc_ic_m1 ?_
      refine j_goto (tgt := 69) C dX11_orders_58 rfl ?_
      refine j_sub [] rfl ?_
      exact p_X11_orders_69 C Q  (-1) S2 hE
  · refine j_iload_n C dX11_orders_51 0 rfl ?_
    exact j_iret C Q dX11_orders_52 hE
set_option maxRecDepth 100000 in
theorem p_X11_orders_e {X : jX} {D : va_G} {ad : Nat → Nat} {cy : Nat → ClassId} (C : jC X (jMain D ad cy) RX11 cX11_orders (some .int) 3 5 119) {z : Int32 × jS} (Q : jRet X (jMain D ad cy) (some (.int z.1), z.2))  (x1 : Int32) (S : jS) (hE : f_X11_orders_e   x1 S = some z) : jJ X (jMain D ad cy) 0 [(0, .ref (ad 0)), (1, .int x1)] [] S := by
  unfold f_X11_orders_e at hE
  refine j_iload_n C dX11_orders_0 1 rfl ?_
  refine j_iconst (v := (-1)) C dX11_orders_1 jc_ic_m1 ?_
  refine j_icmp_eq (tgt := 17) C dX11_orders_2 rfl hE (fun hE => ?_) (fun hE => ?_)
  · exact p_X11_orders_17 C Q  x1 S hE
  · refine j_iload_n C dX11_orders_5 1 rfl ?_
    refine k_X11_92_X11_isHouse C dX11_orders_6 hE (Nat.le_of_ble_eq_true rfl) (Nat.le_of_ble_eq_true rfl) (Nat.le_of_ble_eq_true rfl) (fun v2 S1 hE => ?_)
    refine j_if_ne (tgt := 17) C dX11_orders_9 rfl hE (fun hE => ?_) (fun hE => ?_)
    · exact p_X11_orders_17 C Q  x1 S1 hE
    · refine j_aload_n C dX11_orders_12 0 rfl ?_
      refine k_X11_171_X11_refuseBadApart C dX11_orders_13 hE (Nat.le_of_ble_eq_true rfl) (Nat.le_of_ble_eq_true rfl) (Nat.le_of_ble_eq_true rfl) (fun v4 S3 hE => ?_)
      exact j_iret C Q dX11_orders_16 hE
theorem c_X11_orders {l : Launch} {D : va_G} {ad : Nat → Nat} {cy : Nat → ClassId} (hO : jOk (jMain D ad cy)) (x1 : Int32) (S : jS) {z : Int32 × jS} (hz : f_X11_orders x1 S = some z) : Met l yX11_orders (.code yX11_orders cX11_orders 3 (some .int) :: jT) { frames := 5, cells := 0, slots := 0, locals := 119 } (va_Pc [.ref (ad 0), .int x1] (jInv (jMain D ad cy) S)) (jQ (jMain D ad cy) (some (.int z.1), z.2)) 0 0 (yA (jMain D ad cy)) :=
  jMet hO (by decide +kernel) rfl (Nat.le_of_ble_eq_true rfl) (fun X _ C Q => p_X11_orders_e C Q x1 S hz)
set_option maxRecDepth 100000 in
theorem p_X12_moved_19 {X : jX} {D : va_G} {ad : Nat → Nat} {cy : Nat → ClassId} (C : jC X (jMain D ad cy) RX12 cX12_moved (some .int) 1 5 114) {z : Int32 × jS} (Q : jRet X (jMain D ad cy) (some (.int z.1), z.2))  (a0 : Int32) (S : jS) (hE : f_X12_moved_19   a0 S = some z) : jJ X (jMain D ad cy) 19 [] [.int a0] S := by
  unfold f_X12_moved_19 at hE
  exact j_iret C Q dX12_moved_19 hE
set_option maxRecDepth 100000 in
theorem p_X12_moved_e {X : jX} {D : va_G} {ad : Nat → Nat} {cy : Nat → ClassId} (C : jC X (jMain D ad cy) RX12 cX12_moved (some .int) 1 5 114) {z : Int32 × jS} (Q : jRet X (jMain D ad cy) (some (.int z.1), z.2))   (S : jS) (hE : f_X12_moved_e    S = some z) : jJ X (jMain D ad cy) 0 [(0, .ref (ad 41))] [] S := by
  unfold f_X12_moved_e at hE
  refine j_aload_n C dX12_moved_0 0 rfl ?_
  refine k_X12_163_X12_layOrders C dX12_moved_1 hE (Nat.le_of_ble_eq_true rfl) (Nat.le_of_ble_eq_true rfl) (Nat.le_of_ble_eq_true rfl) (fun S1 hE => ?_)
  refine j_aload_n C dX12_moved_4 0 rfl ?_
  refine g_X12_143_41 C dX12_moved_5 ?_
  refine j_if_ne (tgt := 15) C dX12_moved_8 rfl hE (fun hE => ?_) (fun hE => ?_)
  · refine j_aload_n C dX12_moved_15 0 rfl ?_
    refine g_X12_147_41 C dX12_moved_16 ?_
    refine j_sub [] rfl ?_
    exact p_X12_moved_19 C Q  (S1.1 41 11) S1 hE
  · refine j_iconst (v := (-1)) C dX12_moved_11 jc_ic_m1 ?_
    refine j_goto (tgt := 19) C dX12_moved_12 rfl ?_
    refine j_sub [] rfl ?_
    exact p_X12_moved_19 C Q  (-1) S1 hE
theorem c_X12_moved {l : Launch} {D : va_G} {ad : Nat → Nat} {cy : Nat → ClassId} (hO : jOk (jMain D ad cy))  (S : jS) {z : Int32 × jS} (hz : f_X12_moved  S = some z) : Met l yX12_moved (.code yX12_moved cX12_moved 1 (some .int) :: jT) { frames := 5, cells := 0, slots := 0, locals := 114 } (va_Pc [.ref (ad 41)] (jInv (jMain D ad cy) S)) (jQ (jMain D ad cy) (some (.int z.1), z.2)) 0 0 (yA (jMain D ad cy)) :=
  jMet hO (by decide +kernel) rfl (Nat.le_of_ble_eq_true rfl) (fun X _ C Q => p_X12_moved_e C Q  S hz)
set_option maxRecDepth 100000 in
theorem p_X4_leastOver_96 {X : jX} {D : va_G} {ad : Nat → Nat} {cy : Nat → ClassId} (C : jC X (jMain D ad cy) RX4 cX4_leastOver (some .int) 8 1 23) {z : Int32 × jS} (Q : jRet X (jMain D ad cy) (some (.int z.1), z.2)) {g : Int32 → Int32 → Int32 → Int32 → Int32 → jS → Option (Int32 × jS)} (hg : ∀ (x1 : Int32) (x2 : Int32) (x3 : Int32) (x4 : Int32) (x5 : Int32) (S : jS), g x1 x2 x3 x4 x5 S = some z → jJ X (jMain D ad cy) 11 [(0, .ref (ad 12)), (1, .int x1), (2, .int x2), (3, .int x3), (4, .int x4), (5, .int x5)] [] S) {k102 : Int32 → jS → Option (Int32 × jS)} (hk102 : ∀ (x4 : Int32) (S : jS), k102 x4 S = some z → jJ X (jMain D ad cy) 102 [(4, .int x4)] [] S) (x1 : Int32) (x2 : Int32) (x3 : Int32) (x4 : Int32) (x5 : Int32) (S : jS) (hE : f_X4_leastOver_96  g k102 x1 x2 x3 x4 x5 S = some z) : jJ X (jMain D ad cy) 96 [(0, .ref (ad 12)), (1, .int x1), (2, .int x2), (3, .int x3), (4, .int x4), (5, .int x5)] [] S := by
  unfold f_X4_leastOver_96 at hE
  refine j_iinc (v := (x5 + 1)) (lv' := [(5, .int (x5 + 1)), (0, .ref (ad 12)), (1, .int x1), (2, .int x2), (3, .int x3), (4, .int x4)]) C dX4_leastOver_96 5 rfl (congrArg (fun w => x5 + w) jc_ic_1) (by decide) rfl ?_
  refine j_goto (tgt := 11) C dX4_leastOver_99 rfl ?_
  refine j_sub [1, 2, 3, 4, 5, 0] rfl ?_
  exact hg x1 x2 x3 x4 (x5 + 1) S hE
set_option maxRecDepth 100000 in
theorem p_X4_leastOver_94 {X : jX} {D : va_G} {ad : Nat → Nat} {cy : Nat → ClassId} (C : jC X (jMain D ad cy) RX4 cX4_leastOver (some .int) 8 1 23) {z : Int32 × jS} (Q : jRet X (jMain D ad cy) (some (.int z.1), z.2)) {g : Int32 → Int32 → Int32 → Int32 → Int32 → jS → Option (Int32 × jS)} (hg : ∀ (x1 : Int32) (x2 : Int32) (x3 : Int32) (x4 : Int32) (x5 : Int32) (S : jS), g x1 x2 x3 x4 x5 S = some z → jJ X (jMain D ad cy) 11 [(0, .ref (ad 12)), (1, .int x1), (2, .int x2), (3, .int x3), (4, .int x4), (5, .int x5)] [] S) {k102 : Int32 → jS → Option (Int32 × jS)} (hk102 : ∀ (x4 : Int32) (S : jS), k102 x4 S = some z → jJ X (jMain D ad cy) 102 [(4, .int x4)] [] S) (a0 : Int32) (x1 : Int32) (x2 : Int32) (x3 : Int32) (x5 : Int32) (S : jS) (hE : f_X4_leastOver_94  g k102 a0 x1 x2 x3 x5 S = some z) : jJ X (jMain D ad cy) 94 [(0, .ref (ad 12)), (1, .int x1), (2, .int x2), (3, .int x3), (5, .int x5)] [.int a0] S := by
  unfold f_X4_leastOver_94 at hE
  refine j_istore (lv' := [(4, .int a0), (0, .ref (ad 12)), (1, .int x1), (2, .int x2), (3, .int x3), (5, .int x5)]) C dX4_leastOver_94 (by decide) rfl ?_
  refine j_sub [1, 2, 3, 4, 0, 5] rfl ?_
  exact p_X4_leastOver_96 C Q hg hk102 x1 x2 x3 a0 x5 S hE
set_option maxRecDepth 100000 in
theorem p_X4_leastOver_74 {X : jX} {D : va_G} {ad : Nat → Nat} {cy : Nat → ClassId} (C : jC X (jMain D ad cy) RX4 cX4_leastOver (some .int) 8 1 23) {z : Int32 × jS} (Q : jRet X (jMain D ad cy) (some (.int z.1), z.2)) {g : Int32 → Int32 → Int32 → Int32 → Int32 → jS → Option (Int32 × jS)} (hg : ∀ (x1 : Int32) (x2 : Int32) (x3 : Int32) (x4 : Int32) (x5 : Int32) (S : jS), g x1 x2 x3 x4 x5 S = some z → jJ X (jMain D ad cy) 11 [(0, .ref (ad 12)), (1, .int x1), (2, .int x2), (3, .int x3), (4, .int x4), (5, .int x5)] [] S) {k102 : Int32 → jS → Option (Int32 × jS)} (hk102 : ∀ (x4 : Int32) (S : jS), k102 x4 S = some z → jJ X (jMain D ad cy) 102 [(4, .int x4)] [] S) (a0 : Int32) (x1 : Int32) (x2 : Int32) (x3 : Int32) (x4 : Int32) (x5 : Int32) (S : jS) (hE : f_X4_leastOver_74  g k102 a0 x1 x2 x3 x4 x5 S = some z) : jJ X (jMain D ad cy) 74 [(0, .ref (ad 12)), (1, .int x1), (2, .int x2), (3, .int x3), (4, .int x4), (5, .int x5)] [.int a0] S := by
  unfold f_X4_leastOver_74 at hE
  refine j_istore (lv' := [(7, .int a0), (0, .ref (ad 12)), (1, .int x1), (2, .int x2), (3, .int x3), (4, .int x4), (5, .int x5)]) C dX4_leastOver_74 (by decide) rfl ?_
  refine j_iload C dX4_leastOver_76 5 rfl ?_
  refine j_iconst (v := (-1)) C dX4_leastOver_78 jc_ic_m1 ?_
  refine j_icmp_ne (tgt := 87) C dX4_leastOver_79 rfl hE (fun hE => ?_) (fun hE => ?_)
  · refine j_iload C dX4_leastOver_87 5 rfl ?_
    refine j_iload C dX4_leastOver_89 0 rfl ?_
    refine j_mmin C tm_663 tm_664 tm_87 tm_665 dX4_leastOver_91 (Nat.le_of_ble_eq_true rfl) (Nat.le_of_ble_eq_true rfl) ?_
    refine j_sub [1, 2, 3, 4, 6] rfl ?_
    exact p_X4_leastOver_94 C Q hg hk102 (if a0 < x4 then a0 else x4) x1 x2 x3 x5 S hE
  · refine j_iload C dX4_leastOver_82 0 rfl ?_
    refine j_goto (tgt := 94) C dX4_leastOver_84 rfl ?_
    refine j_sub [1, 2, 3, 4, 6] rfl ?_
    exact p_X4_leastOver_94 C Q hg hk102 a0 x1 x2 x3 x5 S hE
set_option maxRecDepth 100000 in
theorem p_X4_leastOver_51 {X : jX} {D : va_G} {ad : Nat → Nat} {cy : Nat → ClassId} (C : jC X (jMain D ad cy) RX4 cX4_leastOver (some .int) 8 1 23) {z : Int32 × jS} (Q : jRet X (jMain D ad cy) (some (.int z.1), z.2)) {g : Int32 → Int32 → Int32 → Int32 → Int32 → jS → Option (Int32 × jS)} (hg : ∀ (x1 : Int32) (x2 : Int32) (x3 : Int32) (x4 : Int32) (x5 : Int32) (S : jS), g x1 x2 x3 x4 x5 S = some z → jJ X (jMain D ad cy) 11 [(0, .ref (ad 12)), (1, .int x1), (2, .int x2), (3, .int x3), (4, .int x4), (5, .int x5)] [] S) {k102 : Int32 → jS → Option (Int32 × jS)} (hk102 : ∀ (x4 : Int32) (S : jS), k102 x4 S = some z → jJ X (jMain D ad cy) 102 [(4, .int x4)] [] S) (a0 : Int32) (x1 : Int32) (x2 : Int32) (x3 : Int32) (x4 : Int32) (x5 : Int32) (S : jS) (hE : f_X4_leastOver_51  g k102 a0 x1 x2 x3 x4 x5 S = some z) : jJ X (jMain D ad cy) 51 [(0, .ref (ad 12)), (1, .int x1), (2, .int x2), (3, .int x3), (4, .int x4), (5, .int x5)] [.int a0] S := by
  unfold f_X4_leastOver_51 at hE
  refine j_istore (lv' := [(6, .int a0), (0, .ref (ad 12)), (1, .int x1), (2, .int x2), (3, .int x3), (4, .int x4), (5, .int x5)]) C dX4_leastOver_51 (by decide) rfl ?_
  refine j_iload C dX4_leastOver_53 0 rfl ?_
  refine j_iconst (v := (-1)) C dX4_leastOver_55 jc_ic_m1 ?_
  refine j_icmp_eq (tgt := 96) C dX4_leastOver_56 rfl hE (fun hE => ?_) (fun hE => ?_)
  · refine j_sub [1, 2, 3, 4, 5, 6] rfl ?_
    exact p_X4_leastOver_96 C Q hg hk102 x1 x2 x3 x4 x5 S hE
  · refine j_iload C dX4_leastOver_59 6 rfl ?_
    refine j_iload_n C dX4_leastOver_61 4 rfl ?_
    refine j_icmp_ne (tgt := 70) C dX4_leastOver_62 rfl hE (fun hE => ?_) (fun hE => ?_)
    · refine j_iload C dX4_leastOver_70 0 rfl ?_
      refine j_iconst (v := 1) C dX4_leastOver_72 jc_ic_1 ?_
      refine j_iadd C dX4_leastOver_73 ?_
      refine j_sub [1, 2, 3, 4, 5, 6] rfl ?_
      exact p_X4_leastOver_74 C Q hg hk102 (a0 + 1) x1 x2 x3 x4 x5 S hE
    · refine j_iload C dX4_leastOver_65 0 rfl ?_
      refine j_goto (tgt := 74) C dX4_leastOver_67 rfl ?_
      refine j_sub [1, 2, 3, 4, 5, 6] rfl ?_
      exact p_X4_leastOver_74 C Q hg hk102 a0 x1 x2 x3 x4 x5 S hE
set_option maxRecDepth 100000 in
theorem p_X4_leastOver_11 {X : jX} {D : va_G} {ad : Nat → Nat} {cy : Nat → ClassId} (C : jC X (jMain D ad cy) RX4 cX4_leastOver (some .int) 8 1 23) {z : Int32 × jS} (Q : jRet X (jMain D ad cy) (some (.int z.1), z.2)) {g : Int32 → Int32 → Int32 → Int32 → Int32 → jS → Option (Int32 × jS)} (hg : ∀ (x1 : Int32) (x2 : Int32) (x3 : Int32) (x4 : Int32) (x5 : Int32) (S : jS), g x1 x2 x3 x4 x5 S = some z → jJ X (jMain D ad cy) 11 [(0, .ref (ad 12)), (1, .int x1), (2, .int x2), (3, .int x3), (4, .int x4), (5, .int x5)] [] S) {k102 : Int32 → jS → Option (Int32 × jS)} (hk102 : ∀ (x4 : Int32) (S : jS), k102 x4 S = some z → jJ X (jMain D ad cy) 102 [(4, .int x4)] [] S) (x1 : Int32) (x2 : Int32) (x3 : Int32) (x4 : Int32) (x5 : Int32) (S : jS) (hE : f_X4_leastOver_11  g k102 x1 x2 x3 x4 x5 S = some z) : jJ X (jMain D ad cy) 11 [(0, .ref (ad 12)), (1, .int x1), (2, .int x2), (3, .int x3), (4, .int x4), (5, .int x5)] [] S := by
  unfold f_X4_leastOver_11 at hE
  refine j_iload C dX4_leastOver_11 5 rfl ?_
  refine j_aload_n C dX4_leastOver_13 0 rfl ?_
  refine g_X4_41_12 C dX4_leastOver_14 ?_
  refine j_icmp_ge (tgt := 102) C dX4_leastOver_17 rfl hE (fun hE => ?_) (fun hE => ?_)
  · refine j_sub [4] rfl ?_
    exact hk102 x4 S hE
  · refine j_iload_n C dX4_leastOver_20 2 rfl ?_
    refine j_iload C dX4_leastOver_21 5 rfl ?_
    refine j_ishr C dX4_leastOver_23 ?_
    refine j_iconst (v := 1) C dX4_leastOver_24 jc_ic_1 ?_
    refine j_iand C dX4_leastOver_25 ?_
    refine j_iconst (v := 1) C dX4_leastOver_26 jc_ic_1 ?_
    refine j_icmp_ne (tgt := 50) C dX4_leastOver_27 rfl hE (fun hE => ?_) (fun hE => ?_)
    · refine j_iconst (v := (-1)) C dX4_leastOver_50 jc_ic_m1 ?_
      exact p_X4_leastOver_51 C Q hg hk102 (-1) x1 x2 x3 x4 x5 S hE
    · refine j_aload_n C dX4_leastOver_30 0 rfl ?_
      refine g_X4_21_12 C dX4_leastOver_31 ?_
      refine j_iload_n C dX4_leastOver_34 1 rfl ?_
      refine j_iconst (v := 1) C dX4_leastOver_35 jc_ic_1 ?_
      refine j_iload C dX4_leastOver_36 5 rfl ?_
      refine j_ishl C dX4_leastOver_38 ?_
      refine j_ior C dX4_leastOver_39 ?_
      refine j_bipush (v := 8) C dX4_leastOver_40 jc_bp_8 ?_
      refine j_imul C dX4_leastOver_42 ?_
      refine j_iload C dX4_leastOver_43 5 rfl ?_
      refine j_iadd C dX4_leastOver_45 ?_
      refine l_16 C dX4_leastOver_46 hE (fun v1 hE => ?_)
      refine j_goto (tgt := 51) C dX4_leastOver_47 rfl ?_
      exact p_X4_leastOver_51 C Q hg hk102 v1 x1 x2 x3 x4 x5 S hE
theorem q_X4_leastOver_11 {X : jX} {D : va_G} {ad : Nat → Nat} {cy : Nat → ClassId} (C : jC X (jMain D ad cy) RX4 cX4_leastOver (some .int) 8 1 23) {z : Int32 × jS} (Q : jRet X (jMain D ad cy) (some (.int z.1), z.2)) {k102 : Int32 → jS → Option (Int32 × jS)} (hk102 : ∀ (x4 : Int32) (S : jS), k102 x4 S = some z → jJ X (jMain D ad cy) 102 [(4, .int x4)] [] S) (x1 : Int32) (x2 : Int32) (x3 : Int32) (x4 : Int32) (x5 : Int32) (S : jS) (hE : lp_X4_leastOver_11  k102 x1 x2 x3 x4 x5 S = some z) : jJ X (jMain D ad cy) 11 [(0, .ref (ad 12)), (1, .int x1), (2, .int x2), (3, .int x3), (4, .int x4), (5, .int x5)] [] S :=
  jloop_P (α := Int32 × Int32 × Int32 × Int32 × Int32 × jS) (B := (fun g q => f_X4_leastOver_11  (fun x1 x2 x3 x4 x5 S => g (x1, x2, x3, x4, x5, S)) k102 q.1 q.2.1 q.2.2.1 q.2.2.2.1 q.2.2.2.2.1 q.2.2.2.2.2)) (P := fun q => jJ X (jMain D ad cy) 11 [(0, .ref (ad 12)), (1, .int q.1), (2, .int q.2.1), (3, .int q.2.2.1), (4, .int q.2.2.2.1), (5, .int q.2.2.2.2.1)] [] q.2.2.2.2.2) (fun g q hg h => p_X4_leastOver_11 C Q (g := fun x1 x2 x3 x4 x5 S => g (x1, x2, x3, x4, x5, S)) (fun x1 x2 x3 x4 x5 S h => hg (x1, x2, x3, x4, x5, S) h) hk102 q.1 q.2.1 q.2.2.1 q.2.2.2.1 q.2.2.2.2.1 q.2.2.2.2.2 h) jN (x1, x2, x3, x4, x5, S) hE
set_option maxRecDepth 100000 in
theorem p_X4_leastOver_102 {X : jX} {D : va_G} {ad : Nat → Nat} {cy : Nat → ClassId} (C : jC X (jMain D ad cy) RX4 cX4_leastOver (some .int) 8 1 23) {z : Int32 × jS} (Q : jRet X (jMain D ad cy) (some (.int z.1), z.2))  (x4 : Int32) (S : jS) (hE : f_X4_leastOver_102   x4 S = some z) : jJ X (jMain D ad cy) 102 [(4, .int x4)] [] S := by
  unfold f_X4_leastOver_102 at hE
  refine j_iload C dX4_leastOver_102 0 rfl ?_
  exact j_iret C Q dX4_leastOver_104 hE
set_option maxRecDepth 100000 in
theorem p_X4_leastOver_e {X : jX} {D : va_G} {ad : Nat → Nat} {cy : Nat → ClassId} (C : jC X (jMain D ad cy) RX4 cX4_leastOver (some .int) 8 1 23) {z : Int32 × jS} (Q : jRet X (jMain D ad cy) (some (.int z.1), z.2))  (x1 : Int32) (x2 : Int32) (S : jS) (hE : f_X4_leastOver_e   x1 x2 S = some z) : jJ X (jMain D ad cy) 0 [(0, .ref (ad 12)), (1, .int x1), (2, .int x2)] [] S := by
  unfold f_X4_leastOver_e at hE
  refine j_iload_n C dX4_leastOver_0 1 rfl ?_
  refine k_X4_31_J6_bitCount_0f7a4 C dX4_leastOver_1 hE (Nat.le_of_ble_eq_true rfl) (Nat.le_of_ble_eq_true rfl) (Nat.le_of_ble_eq_true rfl) (fun v2 S1 hE => ?_)
  refine j_istore_n (i := 3) (lv' := [(3, .int v2), (0, .ref (ad 12)), (1, .int x1), (2, .int x2)]) C dX4_leastOver_4 rfl (by decide) rfl ?_
  refine j_iconst (v := (-1)) C dX4_leastOver_5 jc_ic_m1 ?_
  refine j_istore (lv' := [(4, .int (-1)), (3, .int v2), (0, .ref (ad 12)), (1, .int x1), (2, .int x2)]) C dX4_leastOver_6 (by decide) rfl ?_
  refine j_iconst (v := 0) C dX4_leastOver_8 jc_ic_0 ?_
  refine j_istore (lv' := [(5, .int 0), (4, .int (-1)), (3, .int v2), (0, .ref (ad 12)), (1, .int x1), (2, .int x2)]) C dX4_leastOver_9 (by decide) rfl ?_
  refine j_sub [3, 4, 5, 2, 1, 0] rfl ?_
  exact q_X4_leastOver_11 C Q (p_X4_leastOver_102 C Q ) x1 x2 v2 (-1) 0 S1 hE
theorem c_X4_leastOver {l : Launch} {D : va_G} {ad : Nat → Nat} {cy : Nat → ClassId} (hO : jOk (jMain D ad cy)) (x1 : Int32) (x2 : Int32) (S : jS) {z : Int32 × jS} (hz : f_X4_leastOver x1 x2 S = some z) : Met l yX4_leastOver (.code yX4_leastOver cX4_leastOver 8 (some .int) :: jT) { frames := 1, cells := 0, slots := 0, locals := 23 } (va_Pc [.ref (ad 12), .int x1, .int x2] (jInv (jMain D ad cy) S)) (jQ (jMain D ad cy) (some (.int z.1), z.2)) 0 0 (yA (jMain D ad cy)) :=
  jMet hO (by decide +kernel) rfl (Nat.le_of_ble_eq_true rfl) (fun X _ C Q => p_X4_leastOver_e C Q x1 x2 S hz)
theorem k_X4_61_X4_leastOver {X : jX} {D : va_G} {ad : Nat → Nat} {cy : Nat → ClassId} {cc : ByteArray} {ret : Option FieldType} {nL fr lo pc : Nat} {lv : List (Nat × Value)} {st : List Value} {S : jS} {β : Type} {z : β} (C : jC X (jMain D ad cy) RX4 cc ret nL fr lo) {a0 : Int32} {a1 : Int32} {E : Int32 → jS → Option β} (d : decode cc pc = .ok (.invokevirtual 61, 3)) (hE : jcl (f_X4_leastOver a0 a1 S) E = some z) (hfr : 2 ≤ fr) (hlo : 50 ≤ lo) (hst : (st.map fun v => v.category).sum ≤ 8) (K : ∀ (v : Int32) (S1 : jS), E v S1 = some z → jJ X (jMain D ad cy) (pc + 3) lv (.int v :: st) S1) : jJ X (jMain D ad cy) pc lv (.int a1 :: .int a0 :: .ref (ad 12) :: st) S := by
  obtain ⟨v, h1, h2⟩ := jcl_some hE
  exact j_callV (k := 12) (ci := 4) (T := TX4) (N := 7) (n := 2) (As := [.int a0, .int a1]) C (c_X4_leastOver C.2.2.2.2.2.2.1 a0 a1 S h1) tw_659 tw_661 tw_18 tw_78 tw_662 (by decide +kernel) rfl (by decide : 12 < 56) rfl rfl hfr hlo hst rfl d (K _ _ h2)
set_option maxRecDepth 100000 in
theorem p_X4_leastMoved_65 {X : jX} {D : va_G} {ad : Nat → Nat} {cy : Nat → ClassId} (C : jC X (jMain D ad cy) RX4 cX4_leastMoved (some .int) 4 2 50) {z : Int32 × jS} (Q : jRet X (jMain D ad cy) (some (.int z.1), z.2)) {g : Int32 → Int32 → Int32 → jS → Option (Int32 × jS)} (hg : ∀ (x1 : Int32) (x2 : Int32) (x3 : Int32) (S : jS), g x1 x2 x3 S = some z → jJ X (jMain D ad cy) 17 [(0, .ref (ad 12)), (1, .int x1), (2, .int x2), (3, .int x3)] [] S) {k71 : Int32 → Int32 → jS → Option (Int32 × jS)} (hk71 : ∀ (x1 : Int32) (x2 : Int32) (S : jS), k71 x1 x2 S = some z → jJ X (jMain D ad cy) 71 [(0, .ref (ad 12)), (1, .int x1), (2, .int x2)] [] S) (x1 : Int32) (x2 : Int32) (x3 : Int32) (S : jS) (hE : f_X4_leastMoved_65  g k71 x1 x2 x3 S = some z) : jJ X (jMain D ad cy) 65 [(0, .ref (ad 12)), (1, .int x1), (2, .int x2), (3, .int x3)] [] S := by
  unfold f_X4_leastMoved_65 at hE
  refine j_iinc (v := (x3 + 1)) (lv' := [(3, .int (x3 + 1)), (0, .ref (ad 12)), (1, .int x1), (2, .int x2)]) C dX4_leastMoved_65 3 rfl (congrArg (fun w => x3 + w) jc_ic_1) (by decide) rfl ?_
  refine j_goto (tgt := 17) C dX4_leastMoved_68 rfl ?_
  refine j_sub [1, 2, 3, 0] rfl ?_
  exact hg x1 x2 (x3 + 1) S hE
set_option maxRecDepth 100000 in
theorem p_X4_leastMoved_64 {X : jX} {D : va_G} {ad : Nat → Nat} {cy : Nat → ClassId} (C : jC X (jMain D ad cy) RX4 cX4_leastMoved (some .int) 4 2 50) {z : Int32 × jS} (Q : jRet X (jMain D ad cy) (some (.int z.1), z.2)) {g : Int32 → Int32 → Int32 → jS → Option (Int32 × jS)} (hg : ∀ (x1 : Int32) (x2 : Int32) (x3 : Int32) (S : jS), g x1 x2 x3 S = some z → jJ X (jMain D ad cy) 17 [(0, .ref (ad 12)), (1, .int x1), (2, .int x2), (3, .int x3)] [] S) {k71 : Int32 → Int32 → jS → Option (Int32 × jS)} (hk71 : ∀ (x1 : Int32) (x2 : Int32) (S : jS), k71 x1 x2 S = some z → jJ X (jMain D ad cy) 71 [(0, .ref (ad 12)), (1, .int x1), (2, .int x2)] [] S) (a0 : Int32) (a1 : Int32) (x1 : Int32) (x2 : Int32) (x3 : Int32) (S : jS) (hE : f_X4_leastMoved_64  g k71 a0 a1 x1 x2 x3 S = some z) : jJ X (jMain D ad cy) 64 [(0, .ref (ad 12)), (1, .int x1), (2, .int x2), (3, .int x3)] [.int a0, .int a1, .ref (ad 16)] S := by
  unfold f_X4_leastMoved_64 at hE
  refine s_16 C dX4_leastMoved_64 hE (fun S1 hE => ?_)
  exact p_X4_leastMoved_65 C Q hg hk71 x1 x2 x3 S1 hE
set_option maxRecDepth 100000 in
theorem p_X4_leastMoved_17 {X : jX} {D : va_G} {ad : Nat → Nat} {cy : Nat → ClassId} (C : jC X (jMain D ad cy) RX4 cX4_leastMoved (some .int) 4 2 50) {z : Int32 × jS} (Q : jRet X (jMain D ad cy) (some (.int z.1), z.2)) {g : Int32 → Int32 → Int32 → jS → Option (Int32 × jS)} (hg : ∀ (x1 : Int32) (x2 : Int32) (x3 : Int32) (S : jS), g x1 x2 x3 S = some z → jJ X (jMain D ad cy) 17 [(0, .ref (ad 12)), (1, .int x1), (2, .int x2), (3, .int x3)] [] S) {k71 : Int32 → Int32 → jS → Option (Int32 × jS)} (hk71 : ∀ (x1 : Int32) (x2 : Int32) (S : jS), k71 x1 x2 S = some z → jJ X (jMain D ad cy) 71 [(0, .ref (ad 12)), (1, .int x1), (2, .int x2)] [] S) (x1 : Int32) (x2 : Int32) (x3 : Int32) (S : jS) (hE : f_X4_leastMoved_17  g k71 x1 x2 x3 S = some z) : jJ X (jMain D ad cy) 17 [(0, .ref (ad 12)), (1, .int x1), (2, .int x2), (3, .int x3)] [] S := by
  unfold f_X4_leastMoved_17 at hE
  refine j_iload_n C dX4_leastMoved_17 3 rfl ?_
  refine j_aload_n C dX4_leastMoved_18 0 rfl ?_
  refine g_X4_41_12 C dX4_leastMoved_19 ?_
  refine j_icmp_ge (tgt := 71) C dX4_leastMoved_22 rfl hE (fun hE => ?_) (fun hE => ?_)
  · refine j_sub [0, 1, 2] rfl ?_
    exact hk71 x1 x2 S hE
  · refine j_iload_n C dX4_leastMoved_25 2 rfl ?_
    refine j_iload_n C dX4_leastMoved_26 3 rfl ?_
    refine j_ishr C dX4_leastMoved_27 ?_
    refine j_iconst (v := 1) C dX4_leastMoved_28 jc_ic_1 ?_
    refine j_iand C dX4_leastMoved_29 ?_
    refine j_iconst (v := 1) C dX4_leastMoved_30 jc_ic_1 ?_
    refine j_icmp_ne (tgt := 65) C dX4_leastMoved_31 rfl hE (fun hE => ?_) (fun hE => ?_)
    · exact p_X4_leastMoved_65 C Q hg hk71 x1 x2 x3 S hE
    · refine j_aload_n C dX4_leastMoved_34 0 rfl ?_
      refine g_X4_21_12 C dX4_leastMoved_35 ?_
      refine j_iload_n C dX4_leastMoved_38 2 rfl ?_
      refine j_bipush (v := 8) C dX4_leastMoved_39 jc_bp_8 ?_
      refine j_imul C dX4_leastMoved_41 ?_
      refine j_iload_n C dX4_leastMoved_42 3 rfl ?_
      refine j_iadd C dX4_leastMoved_43 ?_
      refine j_iload_n C dX4_leastMoved_44 2 rfl ?_
      refine j_iload_n C dX4_leastMoved_45 1 rfl ?_
      refine j_icmp_ne (tgt := 53) C dX4_leastMoved_46 rfl hE (fun hE => ?_) (fun hE => ?_)
      · refine j_aload_n C dX4_leastMoved_53 0 rfl ?_
        refine j_iload_n C dX4_leastMoved_54 2 rfl ?_
        refine j_aload_n C dX4_leastMoved_55 0 rfl ?_
        refine j_iload_n C dX4_leastMoved_56 2 rfl ?_
        refine j_iload_n C dX4_leastMoved_57 3 rfl ?_
        refine k_X4_51_X4_comers C dX4_leastMoved_58 hE (Nat.le_of_ble_eq_true rfl) (Nat.le_of_ble_eq_true rfl) (Nat.le_of_ble_eq_true rfl) (fun v2 S1 hE => ?_)
        refine k_X4_61_X4_leastOver C dX4_leastMoved_61 hE (Nat.le_of_ble_eq_true rfl) (Nat.le_of_ble_eq_true rfl) (Nat.le_of_ble_eq_true rfl) (fun v4 S3 hE => ?_)
        exact p_X4_leastMoved_64 C Q hg hk71 v4 ((x2 * 8) + x3) x1 x2 x3 S3 hE
      · refine j_iconst (v := 0) C dX4_leastMoved_49 jc_ic_0 ?_
        refine j_goto (tgt := 64) C dX4_leastMoved_50 rfl ?_
        exact p_X4_leastMoved_64 C Q hg hk71 0 ((x2 * 8) + x3) x1 x2 x3 S hE
theorem q_X4_leastMoved_17 {X : jX} {D : va_G} {ad : Nat → Nat} {cy : Nat → ClassId} (C : jC X (jMain D ad cy) RX4 cX4_leastMoved (some .int) 4 2 50) {z : Int32 × jS} (Q : jRet X (jMain D ad cy) (some (.int z.1), z.2)) {k71 : Int32 → Int32 → jS → Option (Int32 × jS)} (hk71 : ∀ (x1 : Int32) (x2 : Int32) (S : jS), k71 x1 x2 S = some z → jJ X (jMain D ad cy) 71 [(0, .ref (ad 12)), (1, .int x1), (2, .int x2)] [] S) (x1 : Int32) (x2 : Int32) (x3 : Int32) (S : jS) (hE : lp_X4_leastMoved_17  k71 x1 x2 x3 S = some z) : jJ X (jMain D ad cy) 17 [(0, .ref (ad 12)), (1, .int x1), (2, .int x2), (3, .int x3)] [] S :=
  jloop_P (α := Int32 × Int32 × Int32 × jS) (B := (fun g q => f_X4_leastMoved_17  (fun x1 x2 x3 S => g (x1, x2, x3, S)) k71 q.1 q.2.1 q.2.2.1 q.2.2.2)) (P := fun q => jJ X (jMain D ad cy) 17 [(0, .ref (ad 12)), (1, .int q.1), (2, .int q.2.1), (3, .int q.2.2.1)] [] q.2.2.2) (fun g q hg h => p_X4_leastMoved_17 C Q (g := fun x1 x2 x3 S => g (x1, x2, x3, S)) (fun x1 x2 x3 S h => hg (x1, x2, x3, S) h) hk71 q.1 q.2.1 q.2.2.1 q.2.2.2 h) jN (x1, x2, x3, S) hE
set_option maxRecDepth 100000 in
theorem p_X4_leastMoved_71 {X : jX} {D : va_G} {ad : Nat → Nat} {cy : Nat → ClassId} (C : jC X (jMain D ad cy) RX4 cX4_leastMoved (some .int) 4 2 50) {z : Int32 × jS} (Q : jRet X (jMain D ad cy) (some (.int z.1), z.2)) {g : Int32 → Int32 → jS → Option (Int32 × jS)} (hg : ∀ (x1 : Int32) (x2 : Int32) (S : jS), g x1 x2 S = some z → jJ X (jMain D ad cy) 11 [(0, .ref (ad 12)), (1, .int x1), (2, .int x2)] [] S) {k77 : Int32 → jS → Option (Int32 × jS)} (hk77 : ∀ (x1 : Int32) (S : jS), k77 x1 S = some z → jJ X (jMain D ad cy) 77 [(0, .ref (ad 12)), (1, .int x1)] [] S) (x1 : Int32) (x2 : Int32) (S : jS) (hE : f_X4_leastMoved_71  g k77 x1 x2 S = some z) : jJ X (jMain D ad cy) 71 [(0, .ref (ad 12)), (1, .int x1), (2, .int x2)] [] S := by
  unfold f_X4_leastMoved_71 at hE
  refine j_iinc (v := (x2 + (-1))) (lv' := [(2, .int (x2 + (-1))), (0, .ref (ad 12)), (1, .int x1)]) C dX4_leastMoved_71 2 rfl (congrArg (fun w => x2 + w) jc_ic_m1) (by decide) rfl ?_
  refine j_goto (tgt := 11) C dX4_leastMoved_74 rfl ?_
  refine j_sub [1, 2, 0] rfl ?_
  exact hg x1 (x2 + (-1)) S hE
set_option maxRecDepth 100000 in
theorem p_X4_leastMoved_11 {X : jX} {D : va_G} {ad : Nat → Nat} {cy : Nat → ClassId} (C : jC X (jMain D ad cy) RX4 cX4_leastMoved (some .int) 4 2 50) {z : Int32 × jS} (Q : jRet X (jMain D ad cy) (some (.int z.1), z.2)) {g : Int32 → Int32 → jS → Option (Int32 × jS)} (hg : ∀ (x1 : Int32) (x2 : Int32) (S : jS), g x1 x2 S = some z → jJ X (jMain D ad cy) 11 [(0, .ref (ad 12)), (1, .int x1), (2, .int x2)] [] S) {k77 : Int32 → jS → Option (Int32 × jS)} (hk77 : ∀ (x1 : Int32) (S : jS), k77 x1 S = some z → jJ X (jMain D ad cy) 77 [(0, .ref (ad 12)), (1, .int x1)] [] S) (x1 : Int32) (x2 : Int32) (S : jS) (hE : f_X4_leastMoved_11  g k77 x1 x2 S = some z) : jJ X (jMain D ad cy) 11 [(0, .ref (ad 12)), (1, .int x1), (2, .int x2)] [] S := by
  unfold f_X4_leastMoved_11 at hE
  refine j_iload_n C dX4_leastMoved_11 2 rfl ?_
  refine j_if_le (tgt := 77) C dX4_leastMoved_12 rfl hE (fun hE => ?_) (fun hE => ?_)
  · refine j_sub [0, 1] rfl ?_
    exact hk77 x1 S hE
  · refine j_iconst (v := 0) C dX4_leastMoved_15 jc_ic_0 ?_
    refine j_istore_n (i := 3) (lv' := [(3, .int 0), (0, .ref (ad 12)), (1, .int x1), (2, .int x2)]) C dX4_leastMoved_16 rfl (by decide) rfl ?_
    refine j_sub [1, 2, 3, 0] rfl ?_
    exact q_X4_leastMoved_17 C Q (p_X4_leastMoved_71 C Q hg hk77) x1 x2 0 S hE
theorem q_X4_leastMoved_11 {X : jX} {D : va_G} {ad : Nat → Nat} {cy : Nat → ClassId} (C : jC X (jMain D ad cy) RX4 cX4_leastMoved (some .int) 4 2 50) {z : Int32 × jS} (Q : jRet X (jMain D ad cy) (some (.int z.1), z.2)) {k77 : Int32 → jS → Option (Int32 × jS)} (hk77 : ∀ (x1 : Int32) (S : jS), k77 x1 S = some z → jJ X (jMain D ad cy) 77 [(0, .ref (ad 12)), (1, .int x1)] [] S) (x1 : Int32) (x2 : Int32) (S : jS) (hE : lp_X4_leastMoved_11  k77 x1 x2 S = some z) : jJ X (jMain D ad cy) 11 [(0, .ref (ad 12)), (1, .int x1), (2, .int x2)] [] S :=
  jloop_P (α := Int32 × Int32 × jS) (B := (fun g q => f_X4_leastMoved_11  (fun x1 x2 S => g (x1, x2, S)) k77 q.1 q.2.1 q.2.2)) (P := fun q => jJ X (jMain D ad cy) 11 [(0, .ref (ad 12)), (1, .int q.1), (2, .int q.2.1)] [] q.2.2) (fun g q hg h => p_X4_leastMoved_11 C Q (g := fun x1 x2 S => g (x1, x2, S)) (fun x1 x2 S h => hg (x1, x2, S) h) hk77 q.1 q.2.1 q.2.2 h) jN (x1, x2, S) hE
set_option maxRecDepth 100000 in
theorem p_X4_leastMoved_96 {X : jX} {D : va_G} {ad : Nat → Nat} {cy : Nat → ClassId} (C : jC X (jMain D ad cy) RX4 cX4_leastMoved (some .int) 4 2 50) {z : Int32 × jS} (Q : jRet X (jMain D ad cy) (some (.int z.1), z.2))  (a0 : Int32) (S : jS) (hE : f_X4_leastMoved_96   a0 S = some z) : jJ X (jMain D ad cy) 96 [] [.int a0] S := by
  unfold f_X4_leastMoved_96 at hE
  exact j_iret C Q dX4_leastMoved_96 hE
set_option maxRecDepth 100000 in
theorem p_X4_leastMoved_77 {X : jX} {D : va_G} {ad : Nat → Nat} {cy : Nat → ClassId} (C : jC X (jMain D ad cy) RX4 cX4_leastMoved (some .int) 4 2 50) {z : Int32 × jS} (Q : jRet X (jMain D ad cy) (some (.int z.1), z.2))  (x1 : Int32) (S : jS) (hE : f_X4_leastMoved_77   x1 S = some z) : jJ X (jMain D ad cy) 77 [(0, .ref (ad 12)), (1, .int x1)] [] S := by
  unfold f_X4_leastMoved_77 at hE
  refine j_iload_n C dX4_leastMoved_77 1 rfl ?_
  refine j_if_ne (tgt := 85) C dX4_leastMoved_78 rfl hE (fun hE => ?_) (fun hE => ?_)
  · refine j_aload_n C dX4_leastMoved_85 0 rfl ?_
    refine j_iconst (v := 0) C dX4_leastMoved_86 jc_ic_0 ?_
    refine j_aload_n C dX4_leastMoved_87 0 rfl ?_
    refine j_iconst (v := 0) C dX4_leastMoved_88 jc_ic_0 ?_
    refine j_iconst (v := 0) C dX4_leastMoved_89 jc_ic_0 ?_
    refine k_X4_51_X4_comers C dX4_leastMoved_90 hE (Nat.le_of_ble_eq_true rfl) (Nat.le_of_ble_eq_true rfl) (Nat.le_of_ble_eq_true rfl) (fun v2 S1 hE => ?_)
    refine k_X4_61_X4_leastOver C dX4_leastMoved_93 hE (Nat.le_of_ble_eq_true rfl) (Nat.le_of_ble_eq_true rfl) (Nat.le_of_ble_eq_true rfl) (fun v4 S3 hE => ?_)
    refine j_sub [] rfl ?_
    exact p_X4_leastMoved_96 C Q  v4 S3 hE
  · refine j_iconst (v := 0) C dX4_leastMoved_81 jc_ic_0 ?_
    refine j_goto (tgt := 96) C dX4_leastMoved_82 rfl ?_
    refine j_sub [] rfl ?_
    exact p_X4_leastMoved_96 C Q  0 S hE
set_option maxRecDepth 100000 in
theorem p_X4_leastMoved_e {X : jX} {D : va_G} {ad : Nat → Nat} {cy : Nat → ClassId} (C : jC X (jMain D ad cy) RX4 cX4_leastMoved (some .int) 4 2 50) {z : Int32 × jS} (Q : jRet X (jMain D ad cy) (some (.int z.1), z.2))   (S : jS) (hE : f_X4_leastMoved_e    S = some z) : jJ X (jMain D ad cy) 0 [(0, .ref (ad 12))] [] S := by
  unfold f_X4_leastMoved_e at hE
  refine j_iconst (v := 1) C dX4_leastMoved_0 jc_ic_1 ?_
  refine j_aload_n C dX4_leastMoved_1 0 rfl ?_
  refine g_X4_41_12 C dX4_leastMoved_2 ?_
  refine j_ishl C dX4_leastMoved_5 ?_
  refine j_iconst (v := 1) C dX4_leastMoved_6 jc_ic_1 ?_
  refine j_isub C dX4_leastMoved_7 ?_
  refine j_istore_n (i := 1) (lv' := [(1, .int ((1 <<< ((S.1 12 6) &&& 31)) - 1)), (0, .ref (ad 12))]) C dX4_leastMoved_8 rfl (by decide) rfl ?_
  refine j_iload_n C dX4_leastMoved_9 0 rfl ?_
  refine j_istore_n (i := 2) (lv' := [(2, .int ((1 <<< ((S.1 12 6) &&& 31)) - 1)), (1, .int ((1 <<< ((S.1 12 6) &&& 31)) - 1)), (0, .ref (ad 12))]) C dX4_leastMoved_10 rfl (by decide) rfl ?_
  refine j_sub [2, 1, 0] rfl ?_
  exact q_X4_leastMoved_11 C Q (p_X4_leastMoved_77 C Q ) ((1 <<< ((S.1 12 6) &&& 31)) - 1) ((1 <<< ((S.1 12 6) &&& 31)) - 1) S hE
theorem c_X4_leastMoved {l : Launch} {D : va_G} {ad : Nat → Nat} {cy : Nat → ClassId} (hO : jOk (jMain D ad cy))  (S : jS) {z : Int32 × jS} (hz : f_X4_leastMoved  S = some z) : Met l yX4_leastMoved (.code yX4_leastMoved cX4_leastMoved 4 (some .int) :: jT) { frames := 2, cells := 0, slots := 0, locals := 50 } (va_Pc [.ref (ad 12)] (jInv (jMain D ad cy) S)) (jQ (jMain D ad cy) (some (.int z.1), z.2)) 0 0 (yA (jMain D ad cy)) :=
  jMet hO (by decide +kernel) rfl (Nat.le_of_ble_eq_true rfl) (fun X _ C Q => p_X4_leastMoved_e C Q  S hz)
theorem k_X11_184_X4_leastMoved {X : jX} {D : va_G} {ad : Nat → Nat} {cy : Nat → ClassId} {cc : ByteArray} {ret : Option FieldType} {nL fr lo pc : Nat} {lv : List (Nat × Value)} {st : List Value} {S : jS} {β : Type} {z : β} (C : jC X (jMain D ad cy) RX11 cc ret nL fr lo)  {E : Int32 → jS → Option β} (d : decode cc pc = .ok (.invokevirtual 184, 3)) (hE : jcl (f_X4_leastMoved  S) E = some z) (hfr : 3 ≤ fr) (hlo : 73 ≤ lo) (hst : (st.map fun v => v.category).sum ≤ 8) (K : ∀ (v : Int32) (S1 : jS), E v S1 = some z → jJ X (jMain D ad cy) (pc + 3) lv (.int v :: st) S1) : jJ X (jMain D ad cy) pc lv (.ref (ad 12) :: st) S := by
  obtain ⟨v, h1, h2⟩ := jcl_some hE
  exact j_callV (k := 12) (ci := 4) (T := TX4) (N := 7) (n := 0) (As := []) C (c_X4_leastMoved C.2.2.2.2.2.2.1  S h1) tw_655 tw_656 tw_657 tw_78 tw_658 (by decide +kernel) rfl (by decide : 12 < 56) rfl rfl hfr hlo hst rfl d (K _ _ h2)
set_option maxRecDepth 100000 in
theorem p_X11_moved_e {X : jX} {D : va_G} {ad : Nat → Nat} {cy : Nat → ClassId} (C : jC X (jMain D ad cy) RX11 cX11_moved (some .int) 1 5 119) {z : Int32 × jS} (Q : jRet X (jMain D ad cy) (some (.int z.1), z.2))   (S : jS) (hE : f_X11_moved_e    S = some z) : jJ X (jMain D ad cy) 0 [(0, .ref (ad 0))] [] S := by
  unfold f_X11_moved_e at hE
  refine j_aload_n C dX11_moved_0 0 rfl ?_
  refine g_X11_30_0 C dX11_moved_1 ?_
  refine j_aload_n C dX11_moved_4 0 rfl ?_
  refine g_X11_44_0 C dX11_moved_5 ?_
  refine g_X11_85_21 C dX11_moved_8 ?_
  refine j_aload_n C dX11_moved_11 0 rfl ?_
  refine g_X11_44_0 C dX11_moved_12 ?_
  refine g_X11_96_21 C dX11_moved_15 ?_
  refine k_X11_174_X4_settle_r22 C dX11_moved_18 hE (Nat.le_of_ble_eq_true rfl) (Nat.le_of_ble_eq_true rfl) (Nat.le_of_ble_eq_true rfl) (fun S1 hE => ?_)
  refine j_aload_n C dX11_moved_21 0 rfl ?_
  refine g_X11_30_0 C dX11_moved_22 ?_
  refine k_X11_184_X4_leastMoved C dX11_moved_25 hE (Nat.le_of_ble_eq_true rfl) (Nat.le_of_ble_eq_true rfl) (Nat.le_of_ble_eq_true rfl) (fun v3 S2 hE => ?_)
  exact j_iret C Q dX11_moved_28 hE
theorem c_X11_moved {l : Launch} {D : va_G} {ad : Nat → Nat} {cy : Nat → ClassId} (hO : jOk (jMain D ad cy))  (S : jS) {z : Int32 × jS} (hz : f_X11_moved  S = some z) : Met l yX11_moved (.code yX11_moved cX11_moved 1 (some .int) :: jT) { frames := 5, cells := 0, slots := 0, locals := 119 } (va_Pc [.ref (ad 0)] (jInv (jMain D ad cy) S)) (jQ (jMain D ad cy) (some (.int z.1), z.2)) 0 0 (yA (jMain D ad cy)) :=
  jMet hO (by decide +kernel) rfl (Nat.le_of_ble_eq_true rfl) (fun X _ C Q => p_X11_moved_e C Q  S hz)
set_option maxRecDepth 100000 in
theorem p_X12_areApart_41 {X : jX} {D : va_G} {ad : Nat → Nat} {cy : Nat → ClassId} (C : jC X (jMain D ad cy) RX12 cX12_areApart (some .boolean) 3 1 21) {z : Int32 × jS} (Q : jRet X (jMain D ad cy) (some (.int z.1), z.2))  (a0 : Int32) (S : jS) (hE : f_X12_areApart_41   a0 S = some z) : jJ X (jMain D ad cy) 41 [] [.int a0] S := by
  unfold f_X12_areApart_41 at hE
  exact j_zret C Q dX12_areApart_41 hE
set_option maxRecDepth 100000 in
theorem p_X12_areApart_40 {X : jX} {D : va_G} {ad : Nat → Nat} {cy : Nat → ClassId} (C : jC X (jMain D ad cy) RX12 cX12_areApart (some .boolean) 3 1 21) {z : Int32 × jS} (Q : jRet X (jMain D ad cy) (some (.int z.1), z.2))   (S : jS) (hE : f_X12_areApart_40    S = some z) : jJ X (jMain D ad cy) 40 [] [] S := by
  unfold f_X12_areApart_40 at hE
  refine j_iconst (v := 0) C dX12_areApart_40 jc_ic_0 ?_
  exact p_X12_areApart_41 C Q  0 S hE
set_option maxRecDepth 100000 in
theorem p_X12_areApart_e {X : jX} {D : va_G} {ad : Nat → Nat} {cy : Nat → ClassId} (C : jC X (jMain D ad cy) RX12 cX12_areApart (some .boolean) 3 1 21) {z : Int32 × jS} (Q : jRet X (jMain D ad cy) (some (.int z.1), z.2))  (x1 : Int32) (x2 : Int32) (S : jS) (hE : f_X12_areApart_e   x1 x2 S = some z) : jJ X (jMain D ad cy) 0 [(0, .ref (ad 41)), (1, .int x1), (2, .int x2)] [] S := by
  unfold f_X12_areApart_e at hE
  refine j_aload_n C dX12_areApart_0 0 rfl ?_
  refine g_X12_7_41 C dX12_areApart_1 ?_
  refine j_iload_n C dX12_areApart_4 1 rfl ?_
  refine l_42 C dX12_areApart_5 hE (fun v1 hE => ?_)
  refine j_aload_n C dX12_areApart_6 0 rfl ?_
  refine g_X12_7_41 C dX12_areApart_7 ?_
  refine j_iload_n C dX12_areApart_10 2 rfl ?_
  refine l_42 C dX12_areApart_11 hE (fun v2 hE => ?_)
  refine k_X12_69_X12_divides C dX12_areApart_12 hE (Nat.le_of_ble_eq_true rfl) (Nat.le_of_ble_eq_true rfl) (Nat.le_of_ble_eq_true rfl) (fun v4 S3 hE => ?_)
  refine j_if_ne (tgt := 40) C dX12_areApart_15 rfl hE (fun hE => ?_) (fun hE => ?_)
  · refine j_sub [] rfl ?_
    exact p_X12_areApart_40 C Q   S3 hE
  · refine j_aload_n C dX12_areApart_18 0 rfl ?_
    refine g_X12_7_41 C dX12_areApart_19 ?_
    refine j_iload_n C dX12_areApart_22 2 rfl ?_
    refine l_42 C dX12_areApart_23 hE (fun v5 hE => ?_)
    refine j_aload_n C dX12_areApart_24 0 rfl ?_
    refine g_X12_7_41 C dX12_areApart_25 ?_
    refine j_iload_n C dX12_areApart_28 1 rfl ?_
    refine l_42 C dX12_areApart_29 hE (fun v6 hE => ?_)
    refine k_X12_69_X12_divides C dX12_areApart_30 hE (Nat.le_of_ble_eq_true rfl) (Nat.le_of_ble_eq_true rfl) (Nat.le_of_ble_eq_true rfl) (fun v8 S7 hE => ?_)
    refine j_if_ne (tgt := 40) C dX12_areApart_33 rfl hE (fun hE => ?_) (fun hE => ?_)
    · refine j_sub [] rfl ?_
      exact p_X12_areApart_40 C Q   S7 hE
    · refine j_iconst (v := 1) C dX12_areApart_36 jc_ic_1 ?_
      refine j_goto (tgt := 41) C dX12_areApart_37 rfl ?_
      refine j_sub [] rfl ?_
      exact p_X12_areApart_41 C Q  1 S7 hE
theorem c_X12_areApart {l : Launch} {D : va_G} {ad : Nat → Nat} {cy : Nat → ClassId} (hO : jOk (jMain D ad cy)) (x1 : Int32) (x2 : Int32) (S : jS) {z : Int32 × jS} (hz : f_X12_areApart x1 x2 S = some z) : Met l yX12_areApart (.code yX12_areApart cX12_areApart 3 (some .boolean) :: jT) { frames := 1, cells := 0, slots := 0, locals := 21 } (va_Pc [.ref (ad 41), .int x1, .int x2] (jInv (jMain D ad cy) S)) (jQ (jMain D ad cy) (some (.int z.1), z.2)) 0 0 (yA (jMain D ad cy)) :=
  jMet hO (by decide +kernel) rfl (Nat.le_of_ble_eq_true rfl) (fun X _ C Q => p_X12_areApart_e C Q x1 x2 S hz)
theorem k_X12_166_X12_areApart {X : jX} {D : va_G} {ad : Nat → Nat} {cy : Nat → ClassId} {cc : ByteArray} {ret : Option FieldType} {nL fr lo pc : Nat} {lv : List (Nat × Value)} {st : List Value} {S : jS} {β : Type} {z : β} (C : jC X (jMain D ad cy) RX12 cc ret nL fr lo) {a0 : Int32} {a1 : Int32} {E : Int32 → jS → Option β} (d : decode cc pc = .ok (.invokevirtual 166, 3)) (hE : jcl (f_X12_areApart a0 a1 S) E = some z) (hfr : 2 ≤ fr) (hlo : 43 ≤ lo) (hst : (st.map fun v => v.category).sum ≤ 8) (K : ∀ (v : Int32) (S1 : jS), E v S1 = some z → jJ X (jMain D ad cy) (pc + 3) lv (.int v :: st) S1) : jJ X (jMain D ad cy) pc lv (.int a1 :: .int a0 :: .ref (ad 41) :: st) S := by
  obtain ⟨v, h1, h2⟩ := jcl_some hE
  exact j_callV (k := 41) (ci := 12) (T := TX12) (N := 25) (n := 2) (As := [.int a0, .int a1]) C (c_X12_areApart C.2.2.2.2.2.2.1 a0 a1 S h1) tw_1112 tw_1114 tw_52 tw_81 tw_1115 (by decide +kernel) rfl (by decide : 41 < 56) rfl rfl hfr hlo hst rfl d (K _ _ h2)
set_option maxRecDepth 100000 in
theorem p_X12_lastsOf_109 {X : jX} {D : va_G} {ad : Nat → Nat} {cy : Nat → ClassId} (C : jC X (jMain D ad cy) RX12 cX12_lastsOf (some .int) 7 2 43) {z : Int32 × jS} (Q : jRet X (jMain D ad cy) (some (.int z.1), z.2)) {g : Int32 → Int32 → Int32 → jS → Option (Int32 × jS)} (hg : ∀ (x1 : Int32) (x2 : Int32) (x3 : Int32) (S : jS), g x1 x2 x3 S = some z → jJ X (jMain D ad cy) 4 [(0, .ref (ad 41)), (1, .int x1), (2, .int x2), (3, .int x3)] [] S) {k115 : Int32 → jS → Option (Int32 × jS)} (hk115 : ∀ (x2 : Int32) (S : jS), k115 x2 S = some z → jJ X (jMain D ad cy) 115 [(2, .int x2)] [] S) (x1 : Int32) (x2 : Int32) (x3 : Int32) (S : jS) (hE : f_X12_lastsOf_109  g k115 x1 x2 x3 S = some z) : jJ X (jMain D ad cy) 109 [(0, .ref (ad 41)), (1, .int x1), (2, .int x2), (3, .int x3)] [] S := by
  unfold f_X12_lastsOf_109 at hE
  refine j_iinc (v := (x3 + 1)) (lv' := [(3, .int (x3 + 1)), (0, .ref (ad 41)), (1, .int x1), (2, .int x2)]) C dX12_lastsOf_109 3 rfl (congrArg (fun w => x3 + w) jc_ic_1) (by decide) rfl ?_
  refine j_goto (tgt := 4) C dX12_lastsOf_112 rfl ?_
  refine j_sub [1, 2, 3, 0] rfl ?_
  exact hg x1 x2 (x3 + 1) S hE
set_option maxRecDepth 100000 in
theorem p_X12_lastsOf_86 {X : jX} {D : va_G} {ad : Nat → Nat} {cy : Nat → ClassId} (C : jC X (jMain D ad cy) RX12 cX12_lastsOf (some .int) 7 2 43) {z : Int32 × jS} (Q : jRet X (jMain D ad cy) (some (.int z.1), z.2)) {g : Int32 → Int32 → Int32 → Int32 → Int32 → Int32 → jS → Option (Int32 × jS)} (hg : ∀ (x1 : Int32) (x2 : Int32) (x3 : Int32) (x4 : Int32) (x5 : Int32) (x6 : Int32) (S : jS), g x1 x2 x3 x4 x5 x6 S = some z → jJ X (jMain D ad cy) 43 [(0, .ref (ad 41)), (1, .int x1), (2, .int x2), (3, .int x3), (4, .int x4), (5, .int x5), (6, .int x6)] [] S) {k94 : Int32 → Int32 → Int32 → Int32 → jS → Option (Int32 × jS)} (hk94 : ∀ (x1 : Int32) (x2 : Int32) (x3 : Int32) (x5 : Int32) (S : jS), k94 x1 x2 x3 x5 S = some z → jJ X (jMain D ad cy) 94 [(0, .ref (ad 41)), (1, .int x1), (2, .int x2), (3, .int x3), (5, .int x5)] [] S) (a0 : Int32) (x1 : Int32) (x2 : Int32) (x3 : Int32) (x4 : Int32) (x6 : Int32) (S : jS) (hE : f_X12_lastsOf_86  g k94 a0 x1 x2 x3 x4 x6 S = some z) : jJ X (jMain D ad cy) 86 [(0, .ref (ad 41)), (1, .int x1), (2, .int x2), (3, .int x3), (4, .int x4), (6, .int x6)] [.int a0] S := by
  unfold f_X12_lastsOf_86 at hE
  refine j_istore (lv' := [(5, .int a0), (0, .ref (ad 41)), (1, .int x1), (2, .int x2), (3, .int x3), (4, .int x4), (6, .int x6)]) C dX12_lastsOf_86 (by decide) rfl ?_
  refine j_iinc (v := (x6 + 1)) (lv' := [(6, .int (x6 + 1)), (5, .int a0), (0, .ref (ad 41)), (1, .int x1), (2, .int x2), (3, .int x3), (4, .int x4)]) C dX12_lastsOf_88 6 rfl (congrArg (fun w => x6 + w) jc_ic_1) (by decide) rfl ?_
  refine j_goto (tgt := 43) C dX12_lastsOf_91 rfl ?_
  refine j_sub [2, 3, 4, 5, 6, 1, 0] rfl ?_
  exact hg x1 x2 x3 x4 a0 (x6 + 1) S hE
set_option maxRecDepth 100000 in
theorem p_X12_lastsOf_81 {X : jX} {D : va_G} {ad : Nat → Nat} {cy : Nat → ClassId} (C : jC X (jMain D ad cy) RX12 cX12_lastsOf (some .int) 7 2 43) {z : Int32 × jS} (Q : jRet X (jMain D ad cy) (some (.int z.1), z.2)) {g : Int32 → Int32 → Int32 → Int32 → Int32 → Int32 → jS → Option (Int32 × jS)} (hg : ∀ (x1 : Int32) (x2 : Int32) (x3 : Int32) (x4 : Int32) (x5 : Int32) (x6 : Int32) (S : jS), g x1 x2 x3 x4 x5 x6 S = some z → jJ X (jMain D ad cy) 43 [(0, .ref (ad 41)), (1, .int x1), (2, .int x2), (3, .int x3), (4, .int x4), (5, .int x5), (6, .int x6)] [] S) {k94 : Int32 → Int32 → Int32 → Int32 → jS → Option (Int32 × jS)} (hk94 : ∀ (x1 : Int32) (x2 : Int32) (x3 : Int32) (x5 : Int32) (S : jS), k94 x1 x2 x3 x5 S = some z → jJ X (jMain D ad cy) 94 [(0, .ref (ad 41)), (1, .int x1), (2, .int x2), (3, .int x3), (5, .int x5)] [] S) (x1 : Int32) (x2 : Int32) (x3 : Int32) (x4 : Int32) (x6 : Int32) (S : jS) (hE : f_X12_lastsOf_81  g k94 x1 x2 x3 x4 x6 S = some z) : jJ X (jMain D ad cy) 81 [(0, .ref (ad 41)), (1, .int x1), (2, .int x2), (3, .int x3), (4, .int x4), (6, .int x6)] [] S := by
  unfold f_X12_lastsOf_81 at hE
  refine j_iconst (v := 1) C dX12_lastsOf_81 jc_ic_1 ?_
  refine j_goto (tgt := 86) C dX12_lastsOf_82 rfl ?_
  exact p_X12_lastsOf_86 C Q hg hk94 1 x1 x2 x3 x4 x6 S hE
set_option maxRecDepth 100000 in
theorem p_X12_lastsOf_85 {X : jX} {D : va_G} {ad : Nat → Nat} {cy : Nat → ClassId} (C : jC X (jMain D ad cy) RX12 cX12_lastsOf (some .int) 7 2 43) {z : Int32 × jS} (Q : jRet X (jMain D ad cy) (some (.int z.1), z.2)) {g : Int32 → Int32 → Int32 → Int32 → Int32 → Int32 → jS → Option (Int32 × jS)} (hg : ∀ (x1 : Int32) (x2 : Int32) (x3 : Int32) (x4 : Int32) (x5 : Int32) (x6 : Int32) (S : jS), g x1 x2 x3 x4 x5 x6 S = some z → jJ X (jMain D ad cy) 43 [(0, .ref (ad 41)), (1, .int x1), (2, .int x2), (3, .int x3), (4, .int x4), (5, .int x5), (6, .int x6)] [] S) {k94 : Int32 → Int32 → Int32 → Int32 → jS → Option (Int32 × jS)} (hk94 : ∀ (x1 : Int32) (x2 : Int32) (x3 : Int32) (x5 : Int32) (S : jS), k94 x1 x2 x3 x5 S = some z → jJ X (jMain D ad cy) 94 [(0, .ref (ad 41)), (1, .int x1), (2, .int x2), (3, .int x3), (5, .int x5)] [] S) (x1 : Int32) (x2 : Int32) (x3 : Int32) (x4 : Int32) (x6 : Int32) (S : jS) (hE : f_X12_lastsOf_85  g k94 x1 x2 x3 x4 x6 S = some z) : jJ X (jMain D ad cy) 85 [(0, .ref (ad 41)), (1, .int x1), (2, .int x2), (3, .int x3), (4, .int x4), (6, .int x6)] [] S := by
  unfold f_X12_lastsOf_85 at hE
  refine j_iconst (v := 0) C dX12_lastsOf_85 jc_ic_0 ?_
  exact p_X12_lastsOf_86 C Q hg hk94 0 x1 x2 x3 x4 x6 S hE
set_option maxRecDepth 100000 in
theorem p_X12_lastsOf_43 {X : jX} {D : va_G} {ad : Nat → Nat} {cy : Nat → ClassId} (C : jC X (jMain D ad cy) RX12 cX12_lastsOf (some .int) 7 2 43) {z : Int32 × jS} (Q : jRet X (jMain D ad cy) (some (.int z.1), z.2)) {g : Int32 → Int32 → Int32 → Int32 → Int32 → Int32 → jS → Option (Int32 × jS)} (hg : ∀ (x1 : Int32) (x2 : Int32) (x3 : Int32) (x4 : Int32) (x5 : Int32) (x6 : Int32) (S : jS), g x1 x2 x3 x4 x5 x6 S = some z → jJ X (jMain D ad cy) 43 [(0, .ref (ad 41)), (1, .int x1), (2, .int x2), (3, .int x3), (4, .int x4), (5, .int x5), (6, .int x6)] [] S) {k94 : Int32 → Int32 → Int32 → Int32 → jS → Option (Int32 × jS)} (hk94 : ∀ (x1 : Int32) (x2 : Int32) (x3 : Int32) (x5 : Int32) (S : jS), k94 x1 x2 x3 x5 S = some z → jJ X (jMain D ad cy) 94 [(0, .ref (ad 41)), (1, .int x1), (2, .int x2), (3, .int x3), (5, .int x5)] [] S) (x1 : Int32) (x2 : Int32) (x3 : Int32) (x4 : Int32) (x5 : Int32) (x6 : Int32) (S : jS) (hE : f_X12_lastsOf_43  g k94 x1 x2 x3 x4 x5 x6 S = some z) : jJ X (jMain D ad cy) 43 [(0, .ref (ad 41)), (1, .int x1), (2, .int x2), (3, .int x3), (4, .int x4), (5, .int x5), (6, .int x6)] [] S := by
  unfold f_X12_lastsOf_43 at hE
  refine j_iload C dX12_lastsOf_43 6 rfl ?_
  refine j_bipush (v := 8) C dX12_lastsOf_45 jc_bp_8 ?_
  refine j_icmp_ge (tgt := 94) C dX12_lastsOf_47 rfl hE (fun hE => ?_) (fun hE => ?_)
  · refine j_sub [0, 1, 2, 3, 5] rfl ?_
    exact hk94 x1 x2 x3 x5 S hE
  · refine j_iload C dX12_lastsOf_50 5 rfl ?_
    refine j_if_ne (tgt := 81) C dX12_lastsOf_52 rfl hE (fun hE => ?_) (fun hE => ?_)
    · refine j_sub [0, 1, 2, 3, 4, 6] rfl ?_
      exact p_X12_lastsOf_81 C Q hg hk94 x1 x2 x3 x4 x6 S hE
    · refine j_aload_n C dX12_lastsOf_55 0 rfl ?_
      refine g_X12_39_41 C dX12_lastsOf_56 ?_
      refine j_iload C dX12_lastsOf_59 4 rfl ?_
      refine l_50 C dX12_lastsOf_61 hE (fun v1 hE => ?_)
      refine j_iload C dX12_lastsOf_62 6 rfl ?_
      refine j_ishr C dX12_lastsOf_64 ?_
      refine j_iconst (v := 1) C dX12_lastsOf_65 jc_ic_1 ?_
      refine j_iand C dX12_lastsOf_66 ?_
      refine j_iconst (v := 1) C dX12_lastsOf_67 jc_ic_1 ?_
      refine j_icmp_ne (tgt := 85) C dX12_lastsOf_68 rfl hE (fun hE => ?_) (fun hE => ?_)
      · refine j_sub [0, 1, 2, 3, 4, 6] rfl ?_
        exact p_X12_lastsOf_85 C Q hg hk94 x1 x2 x3 x4 x6 S hE
      · refine j_aload_n C dX12_lastsOf_71 0 rfl ?_
        refine j_iload_n C dX12_lastsOf_72 3 rfl ?_
        refine j_iload C dX12_lastsOf_73 6 rfl ?_
        refine k_X12_166_X12_areApart C dX12_lastsOf_75 hE (Nat.le_of_ble_eq_true rfl) (Nat.le_of_ble_eq_true rfl) (Nat.le_of_ble_eq_true rfl) (fun v3 S2 hE => ?_)
        refine j_if_eq (tgt := 85) C dX12_lastsOf_78 rfl hE (fun hE => ?_) (fun hE => ?_)
        · refine j_sub [0, 1, 2, 3, 4, 6] rfl ?_
          exact p_X12_lastsOf_85 C Q hg hk94 x1 x2 x3 x4 x6 S2 hE
        · refine j_sub [0, 1, 2, 3, 4, 6] rfl ?_
          exact p_X12_lastsOf_81 C Q hg hk94 x1 x2 x3 x4 x6 S2 hE
theorem q_X12_lastsOf_43 {X : jX} {D : va_G} {ad : Nat → Nat} {cy : Nat → ClassId} (C : jC X (jMain D ad cy) RX12 cX12_lastsOf (some .int) 7 2 43) {z : Int32 × jS} (Q : jRet X (jMain D ad cy) (some (.int z.1), z.2)) {k94 : Int32 → Int32 → Int32 → Int32 → jS → Option (Int32 × jS)} (hk94 : ∀ (x1 : Int32) (x2 : Int32) (x3 : Int32) (x5 : Int32) (S : jS), k94 x1 x2 x3 x5 S = some z → jJ X (jMain D ad cy) 94 [(0, .ref (ad 41)), (1, .int x1), (2, .int x2), (3, .int x3), (5, .int x5)] [] S) (x1 : Int32) (x2 : Int32) (x3 : Int32) (x4 : Int32) (x5 : Int32) (x6 : Int32) (S : jS) (hE : lp_X12_lastsOf_43  k94 x1 x2 x3 x4 x5 x6 S = some z) : jJ X (jMain D ad cy) 43 [(0, .ref (ad 41)), (1, .int x1), (2, .int x2), (3, .int x3), (4, .int x4), (5, .int x5), (6, .int x6)] [] S :=
  jloop_P (α := Int32 × Int32 × Int32 × Int32 × Int32 × Int32 × jS) (B := (fun g q => f_X12_lastsOf_43  (fun x1 x2 x3 x4 x5 x6 S => g (x1, x2, x3, x4, x5, x6, S)) k94 q.1 q.2.1 q.2.2.1 q.2.2.2.1 q.2.2.2.2.1 q.2.2.2.2.2.1 q.2.2.2.2.2.2)) (P := fun q => jJ X (jMain D ad cy) 43 [(0, .ref (ad 41)), (1, .int q.1), (2, .int q.2.1), (3, .int q.2.2.1), (4, .int q.2.2.2.1), (5, .int q.2.2.2.2.1), (6, .int q.2.2.2.2.2.1)] [] q.2.2.2.2.2.2) (fun g q hg h => p_X12_lastsOf_43 C Q (g := fun x1 x2 x3 x4 x5 x6 S => g (x1, x2, x3, x4, x5, x6, S)) (fun x1 x2 x3 x4 x5 x6 S h => hg (x1, x2, x3, x4, x5, x6, S) h) hk94 q.1 q.2.1 q.2.2.1 q.2.2.2.1 q.2.2.2.2.1 q.2.2.2.2.2.1 q.2.2.2.2.2.2 h) jN (x1, x2, x3, x4, x5, x6, S) hE
set_option maxRecDepth 100000 in
theorem p_X12_lastsOf_107 {X : jX} {D : va_G} {ad : Nat → Nat} {cy : Nat → ClassId} (C : jC X (jMain D ad cy) RX12 cX12_lastsOf (some .int) 7 2 43) {z : Int32 × jS} (Q : jRet X (jMain D ad cy) (some (.int z.1), z.2)) {g : Int32 → Int32 → Int32 → jS → Option (Int32 × jS)} (hg : ∀ (x1 : Int32) (x2 : Int32) (x3 : Int32) (S : jS), g x1 x2 x3 S = some z → jJ X (jMain D ad cy) 4 [(0, .ref (ad 41)), (1, .int x1), (2, .int x2), (3, .int x3)] [] S) {k115 : Int32 → jS → Option (Int32 × jS)} (hk115 : ∀ (x2 : Int32) (S : jS), k115 x2 S = some z → jJ X (jMain D ad cy) 115 [(2, .int x2)] [] S) (a0 : Int32) (a1 : Int32) (x1 : Int32) (x3 : Int32) (S : jS) (hE : f_X12_lastsOf_107  g k115 a0 a1 x1 x3 S = some z) : jJ X (jMain D ad cy) 107 [(0, .ref (ad 41)), (1, .int x1), (3, .int x3)] [.int a0, .int a1] S := by
  unfold f_X12_lastsOf_107 at hE
  refine j_ior C dX12_lastsOf_107 ?_
  refine j_istore_n (i := 2) (lv' := [(2, .int (a1 ||| a0)), (0, .ref (ad 41)), (1, .int x1), (3, .int x3)]) C dX12_lastsOf_108 rfl (by decide) rfl ?_
  refine j_sub [1, 2, 0, 3] rfl ?_
  exact p_X12_lastsOf_109 C Q hg hk115 x1 (a1 ||| a0) x3 S hE
set_option maxRecDepth 100000 in
theorem p_X12_lastsOf_94 {X : jX} {D : va_G} {ad : Nat → Nat} {cy : Nat → ClassId} (C : jC X (jMain D ad cy) RX12 cX12_lastsOf (some .int) 7 2 43) {z : Int32 × jS} (Q : jRet X (jMain D ad cy) (some (.int z.1), z.2)) {g : Int32 → Int32 → Int32 → jS → Option (Int32 × jS)} (hg : ∀ (x1 : Int32) (x2 : Int32) (x3 : Int32) (S : jS), g x1 x2 x3 S = some z → jJ X (jMain D ad cy) 4 [(0, .ref (ad 41)), (1, .int x1), (2, .int x2), (3, .int x3)] [] S) {k115 : Int32 → jS → Option (Int32 × jS)} (hk115 : ∀ (x2 : Int32) (S : jS), k115 x2 S = some z → jJ X (jMain D ad cy) 115 [(2, .int x2)] [] S) (x1 : Int32) (x2 : Int32) (x3 : Int32) (x5 : Int32) (S : jS) (hE : f_X12_lastsOf_94  g k115 x1 x2 x3 x5 S = some z) : jJ X (jMain D ad cy) 94 [(0, .ref (ad 41)), (1, .int x1), (2, .int x2), (3, .int x3), (5, .int x5)] [] S := by
  unfold f_X12_lastsOf_94 at hE
  refine j_iload_n C dX12_lastsOf_94 2 rfl ?_
  refine j_iload C dX12_lastsOf_95 4 rfl ?_
  refine j_if_eq (tgt := 106) C dX12_lastsOf_97 rfl hE (fun hE => ?_) (fun hE => ?_)
  · refine j_iconst (v := 0) C dX12_lastsOf_106 jc_ic_0 ?_
    refine j_sub [0, 1, 3] rfl ?_
    exact p_X12_lastsOf_107 C Q hg hk115 0 x2 x1 x3 S hE
  · refine j_iconst (v := 1) C dX12_lastsOf_100 jc_ic_1 ?_
    refine j_iload_n C dX12_lastsOf_101 3 rfl ?_
    refine j_ishl C dX12_lastsOf_102 ?_
    refine j_goto (tgt := 107) C dX12_lastsOf_103 rfl ?_
    refine j_sub [0, 1, 3] rfl ?_
    exact p_X12_lastsOf_107 C Q hg hk115 (1 <<< (x3 &&& 31)) x2 x1 x3 S hE
set_option maxRecDepth 100000 in
theorem p_X12_lastsOf_38 {X : jX} {D : va_G} {ad : Nat → Nat} {cy : Nat → ClassId} (C : jC X (jMain D ad cy) RX12 cX12_lastsOf (some .int) 7 2 43) {z : Int32 × jS} (Q : jRet X (jMain D ad cy) (some (.int z.1), z.2)) {g : Int32 → Int32 → Int32 → jS → Option (Int32 × jS)} (hg : ∀ (x1 : Int32) (x2 : Int32) (x3 : Int32) (S : jS), g x1 x2 x3 S = some z → jJ X (jMain D ad cy) 4 [(0, .ref (ad 41)), (1, .int x1), (2, .int x2), (3, .int x3)] [] S) {k115 : Int32 → jS → Option (Int32 × jS)} (hk115 : ∀ (x2 : Int32) (S : jS), k115 x2 S = some z → jJ X (jMain D ad cy) 115 [(2, .int x2)] [] S) (a0 : Int32) (x1 : Int32) (x2 : Int32) (x3 : Int32) (x4 : Int32) (S : jS) (hE : f_X12_lastsOf_38  g k115 a0 x1 x2 x3 x4 S = some z) : jJ X (jMain D ad cy) 38 [(0, .ref (ad 41)), (1, .int x1), (2, .int x2), (3, .int x3), (4, .int x4)] [.int a0] S := by
  unfold f_X12_lastsOf_38 at hE
  refine j_istore (lv' := [(5, .int a0), (0, .ref (ad 41)), (1, .int x1), (2, .int x2), (3, .int x3), (4, .int x4)]) C dX12_lastsOf_38 (by decide) rfl ?_
  refine j_iconst (v := 0) C dX12_lastsOf_40 jc_ic_0 ?_
  refine j_istore (lv' := [(6, .int 0), (5, .int a0), (0, .ref (ad 41)), (1, .int x1), (2, .int x2), (3, .int x3), (4, .int x4)]) C dX12_lastsOf_41 (by decide) rfl ?_
  refine j_sub [2, 3, 4, 5, 6, 1, 0] rfl ?_
  exact q_X12_lastsOf_43 C Q (p_X12_lastsOf_94 C Q hg hk115) x1 x2 x3 x4 a0 0 S hE
set_option maxRecDepth 100000 in
theorem p_X12_lastsOf_4 {X : jX} {D : va_G} {ad : Nat → Nat} {cy : Nat → ClassId} (C : jC X (jMain D ad cy) RX12 cX12_lastsOf (some .int) 7 2 43) {z : Int32 × jS} (Q : jRet X (jMain D ad cy) (some (.int z.1), z.2)) {g : Int32 → Int32 → Int32 → jS → Option (Int32 × jS)} (hg : ∀ (x1 : Int32) (x2 : Int32) (x3 : Int32) (S : jS), g x1 x2 x3 S = some z → jJ X (jMain D ad cy) 4 [(0, .ref (ad 41)), (1, .int x1), (2, .int x2), (3, .int x3)] [] S) {k115 : Int32 → jS → Option (Int32 × jS)} (hk115 : ∀ (x2 : Int32) (S : jS), k115 x2 S = some z → jJ X (jMain D ad cy) 115 [(2, .int x2)] [] S) (x1 : Int32) (x2 : Int32) (x3 : Int32) (S : jS) (hE : f_X12_lastsOf_4  g k115 x1 x2 x3 S = some z) : jJ X (jMain D ad cy) 4 [(0, .ref (ad 41)), (1, .int x1), (2, .int x2), (3, .int x3)] [] S := by
  unfold f_X12_lastsOf_4 at hE
  refine j_iload_n C dX12_lastsOf_4 3 rfl ?_
  refine j_bipush (v := 8) C dX12_lastsOf_5 jc_bp_8 ?_
  refine j_icmp_ge (tgt := 115) C dX12_lastsOf_7 rfl hE (fun hE => ?_) (fun hE => ?_)
  · refine j_sub [2] rfl ?_
    exact hk115 x2 S hE
  · refine j_iload_n C dX12_lastsOf_10 1 rfl ?_
    refine j_iload_n C dX12_lastsOf_11 3 rfl ?_
    refine j_ishr C dX12_lastsOf_12 ?_
    refine j_iconst (v := 1) C dX12_lastsOf_13 jc_ic_1 ?_
    refine j_iand C dX12_lastsOf_14 ?_
    refine j_iconst (v := 1) C dX12_lastsOf_15 jc_ic_1 ?_
    refine j_icmp_ne (tgt := 109) C dX12_lastsOf_16 rfl hE (fun hE => ?_) (fun hE => ?_)
    · exact p_X12_lastsOf_109 C Q hg hk115 x1 x2 x3 S hE
    · refine j_iload_n C dX12_lastsOf_19 1 rfl ?_
      refine j_iconst (v := 1) C dX12_lastsOf_20 jc_ic_1 ?_
      refine j_iload_n C dX12_lastsOf_21 3 rfl ?_
      refine j_ishl C dX12_lastsOf_22 ?_
      refine j_iconst (v := (-1)) C dX12_lastsOf_23 jc_ic_m1 ?_
      refine j_ixor C dX12_lastsOf_24 ?_
      refine j_iand C dX12_lastsOf_25 ?_
      refine j_istore (lv' := [(4, .int (x1 &&& ((1 <<< (x3 &&& 31)) ^^^ (-1)))), (0, .ref (ad 41)), (1, .int x1), (2, .int x2), (3, .int x3)]) C dX12_lastsOf_26 (by decide) rfl ?_
      refine j_iload C dX12_lastsOf_28 0 rfl ?_
      refine j_if_ne (tgt := 37) C dX12_lastsOf_30 rfl hE (fun hE => ?_) (fun hE => ?_)
      · refine j_iconst (v := 0) C dX12_lastsOf_37 jc_ic_0 ?_
        refine j_sub [1, 2, 3, 4, 0] rfl ?_
        exact p_X12_lastsOf_38 C Q hg hk115 0 x1 x2 x3 (x1 &&& ((1 <<< (x3 &&& 31)) ^^^ (-1))) S hE
      · refine j_iconst (v := 1) C dX12_lastsOf_33 jc_ic_1 ?_
        refine j_goto (tgt := 38) C dX12_lastsOf_34 rfl ?_
        refine j_sub [1, 2, 3, 4, 0] rfl ?_
        exact p_X12_lastsOf_38 C Q hg hk115 1 x1 x2 x3 (x1 &&& ((1 <<< (x3 &&& 31)) ^^^ (-1))) S hE
theorem q_X12_lastsOf_4 {X : jX} {D : va_G} {ad : Nat → Nat} {cy : Nat → ClassId} (C : jC X (jMain D ad cy) RX12 cX12_lastsOf (some .int) 7 2 43) {z : Int32 × jS} (Q : jRet X (jMain D ad cy) (some (.int z.1), z.2)) {k115 : Int32 → jS → Option (Int32 × jS)} (hk115 : ∀ (x2 : Int32) (S : jS), k115 x2 S = some z → jJ X (jMain D ad cy) 115 [(2, .int x2)] [] S) (x1 : Int32) (x2 : Int32) (x3 : Int32) (S : jS) (hE : lp_X12_lastsOf_4  k115 x1 x2 x3 S = some z) : jJ X (jMain D ad cy) 4 [(0, .ref (ad 41)), (1, .int x1), (2, .int x2), (3, .int x3)] [] S :=
  jloop_P (α := Int32 × Int32 × Int32 × jS) (B := (fun g q => f_X12_lastsOf_4  (fun x1 x2 x3 S => g (x1, x2, x3, S)) k115 q.1 q.2.1 q.2.2.1 q.2.2.2)) (P := fun q => jJ X (jMain D ad cy) 4 [(0, .ref (ad 41)), (1, .int q.1), (2, .int q.2.1), (3, .int q.2.2.1)] [] q.2.2.2) (fun g q hg h => p_X12_lastsOf_4 C Q (g := fun x1 x2 x3 S => g (x1, x2, x3, S)) (fun x1 x2 x3 S h => hg (x1, x2, x3, S) h) hk115 q.1 q.2.1 q.2.2.1 q.2.2.2 h) jN (x1, x2, x3, S) hE
set_option maxRecDepth 100000 in
theorem p_X12_lastsOf_115 {X : jX} {D : va_G} {ad : Nat → Nat} {cy : Nat → ClassId} (C : jC X (jMain D ad cy) RX12 cX12_lastsOf (some .int) 7 2 43) {z : Int32 × jS} (Q : jRet X (jMain D ad cy) (some (.int z.1), z.2))  (x2 : Int32) (S : jS) (hE : f_X12_lastsOf_115   x2 S = some z) : jJ X (jMain D ad cy) 115 [(2, .int x2)] [] S := by
  unfold f_X12_lastsOf_115 at hE
  refine j_iload_n C dX12_lastsOf_115 0 rfl ?_
  exact j_iret C Q dX12_lastsOf_116 hE
set_option maxRecDepth 100000 in
theorem p_X12_lastsOf_e {X : jX} {D : va_G} {ad : Nat → Nat} {cy : Nat → ClassId} (C : jC X (jMain D ad cy) RX12 cX12_lastsOf (some .int) 7 2 43) {z : Int32 × jS} (Q : jRet X (jMain D ad cy) (some (.int z.1), z.2))  (x1 : Int32) (S : jS) (hE : f_X12_lastsOf_e   x1 S = some z) : jJ X (jMain D ad cy) 0 [(0, .ref (ad 41)), (1, .int x1)] [] S := by
  unfold f_X12_lastsOf_e at hE
  refine j_iconst (v := 0) C dX12_lastsOf_0 jc_ic_0 ?_
  refine j_istore_n (i := 2) (lv' := [(2, .int 0), (0, .ref (ad 41)), (1, .int x1)]) C dX12_lastsOf_1 rfl (by decide) rfl ?_
  refine j_iconst (v := 0) C dX12_lastsOf_2 jc_ic_0 ?_
  refine j_istore_n (i := 3) (lv' := [(3, .int 0), (2, .int 0), (0, .ref (ad 41)), (1, .int x1)]) C dX12_lastsOf_3 rfl (by decide) rfl ?_
  refine j_sub [2, 3, 1, 0] rfl ?_
  exact q_X12_lastsOf_4 C Q (p_X12_lastsOf_115 C Q ) x1 0 0 S hE
theorem c_X12_lastsOf {l : Launch} {D : va_G} {ad : Nat → Nat} {cy : Nat → ClassId} (hO : jOk (jMain D ad cy)) (x1 : Int32) (S : jS) {z : Int32 × jS} (hz : f_X12_lastsOf x1 S = some z) : Met l yX12_lastsOf (.code yX12_lastsOf cX12_lastsOf 7 (some .int) :: jT) { frames := 2, cells := 0, slots := 0, locals := 43 } (va_Pc [.ref (ad 41), .int x1] (jInv (jMain D ad cy) S)) (jQ (jMain D ad cy) (some (.int z.1), z.2)) 0 0 (yA (jMain D ad cy)) :=
  jMet hO (by decide +kernel) rfl (Nat.le_of_ble_eq_true rfl) (fun X _ C Q => p_X12_lastsOf_e C Q x1 S hz)
theorem k_X12_169_X12_lastsOf {X : jX} {D : va_G} {ad : Nat → Nat} {cy : Nat → ClassId} {cc : ByteArray} {ret : Option FieldType} {nL fr lo pc : Nat} {lv : List (Nat × Value)} {st : List Value} {S : jS} {β : Type} {z : β} (C : jC X (jMain D ad cy) RX12 cc ret nL fr lo) {a0 : Int32} {E : Int32 → jS → Option β} (d : decode cc pc = .ok (.invokevirtual 169, 3)) (hE : jcl (f_X12_lastsOf a0 S) E = some z) (hfr : 3 ≤ fr) (hlo : 69 ≤ lo) (hst : (st.map fun v => v.category).sum ≤ 8) (K : ∀ (v : Int32) (S1 : jS), E v S1 = some z → jJ X (jMain D ad cy) (pc + 3) lv (.int v :: st) S1) : jJ X (jMain D ad cy) pc lv (.int a0 :: .ref (ad 41) :: st) S := by
  obtain ⟨v, h1, h2⟩ := jcl_some hE
  exact j_callV (k := 41) (ci := 12) (T := TX12) (N := 25) (n := 1) (As := [.int a0]) C (c_X12_lastsOf C.2.2.2.2.2.2.1 a0 S h1) tw_1108 tw_1110 tw_51 tw_81 tw_1111 (by decide +kernel) rfl (by decide : 41 < 56) rfl rfl hfr hlo hst rfl d (K _ _ h2)
set_option maxRecDepth 100000 in
theorem p_X12_longest_71 {X : jX} {D : va_G} {ad : Nat → Nat} {cy : Nat → ClassId} (C : jC X (jMain D ad cy) RX12 cX12_longest (some .int) 4 3 69) {z : Int32 × jS} (Q : jRet X (jMain D ad cy) (some (.int z.1), z.2)) {g : Int32 → Int32 → Int32 → jS → Option (Int32 × jS)} (hg : ∀ (x1 : Int32) (x2 : Int32) (x3 : Int32) (S : jS), g x1 x2 x3 S = some z → jJ X (jMain D ad cy) 16 [(0, .ref (ad 41)), (1, .int x1), (2, .int x2), (3, .int x3)] [] S) {k78 : Int32 → jS → Option (Int32 × jS)} (hk78 : ∀ (x2 : Int32) (S : jS), k78 x2 S = some z → jJ X (jMain D ad cy) 78 [(2, .int x2)] [] S) (a0 : Int32) (x1 : Int32) (x3 : Int32) (S : jS) (hE : f_X12_longest_71  g k78 a0 x1 x3 S = some z) : jJ X (jMain D ad cy) 71 [(0, .ref (ad 41)), (1, .int x1), (3, .int x3)] [.int a0] S := by
  unfold f_X12_longest_71 at hE
  refine j_istore_n (i := 2) (lv' := [(2, .int a0), (0, .ref (ad 41)), (1, .int x1), (3, .int x3)]) C dX12_longest_71 rfl (by decide) rfl ?_
  refine j_iinc (v := (x3 + 1)) (lv' := [(3, .int (x3 + 1)), (2, .int a0), (0, .ref (ad 41)), (1, .int x1)]) C dX12_longest_72 3 rfl (congrArg (fun w => x3 + w) jc_ic_1) (by decide) rfl ?_
  refine j_goto (tgt := 16) C dX12_longest_75 rfl ?_
  refine j_sub [2, 3, 1, 0] rfl ?_
  exact hg x1 a0 (x3 + 1) S hE
set_option maxRecDepth 100000 in
theorem p_X12_longest_70 {X : jX} {D : va_G} {ad : Nat → Nat} {cy : Nat → ClassId} (C : jC X (jMain D ad cy) RX12 cX12_longest (some .int) 4 3 69) {z : Int32 × jS} (Q : jRet X (jMain D ad cy) (some (.int z.1), z.2)) {g : Int32 → Int32 → Int32 → jS → Option (Int32 × jS)} (hg : ∀ (x1 : Int32) (x2 : Int32) (x3 : Int32) (S : jS), g x1 x2 x3 S = some z → jJ X (jMain D ad cy) 16 [(0, .ref (ad 41)), (1, .int x1), (2, .int x2), (3, .int x3)] [] S) {k78 : Int32 → jS → Option (Int32 × jS)} (hk78 : ∀ (x2 : Int32) (S : jS), k78 x2 S = some z → jJ X (jMain D ad cy) 78 [(2, .int x2)] [] S) (x1 : Int32) (x2 : Int32) (x3 : Int32) (S : jS) (hE : f_X12_longest_70  g k78 x1 x2 x3 S = some z) : jJ X (jMain D ad cy) 70 [(0, .ref (ad 41)), (1, .int x1), (2, .int x2), (3, .int x3)] [] S := by
  unfold f_X12_longest_70 at hE
  refine j_iload_n C dX12_longest_70 2 rfl ?_
  refine j_sub [0, 1, 3] rfl ?_
  exact p_X12_longest_71 C Q hg hk78 x2 x1 x3 S hE
set_option maxRecDepth 100000 in
theorem p_X12_longest_45 {X : jX} {D : va_G} {ad : Nat → Nat} {cy : Nat → ClassId} (C : jC X (jMain D ad cy) RX12 cX12_longest (some .int) 4 3 69) {z : Int32 × jS} (Q : jRet X (jMain D ad cy) (some (.int z.1), z.2)) {g : Int32 → Int32 → Int32 → jS → Option (Int32 × jS)} (hg : ∀ (x1 : Int32) (x2 : Int32) (x3 : Int32) (S : jS), g x1 x2 x3 S = some z → jJ X (jMain D ad cy) 16 [(0, .ref (ad 41)), (1, .int x1), (2, .int x2), (3, .int x3)] [] S) {k78 : Int32 → jS → Option (Int32 × jS)} (hk78 : ∀ (x2 : Int32) (S : jS), k78 x2 S = some z → jJ X (jMain D ad cy) 78 [(2, .int x2)] [] S) (a0 : Int32) (a1 : Int32) (x1 : Int32) (x2 : Int32) (x3 : Int32) (S : jS) (hE : f_X12_longest_45  g k78 a0 a1 x1 x2 x3 S = some z) : jJ X (jMain D ad cy) 45 [(0, .ref (ad 41)), (1, .int x1), (2, .int x2), (3, .int x3)] [.int a0, .int a1, .ref (ad 50)] S := by
  unfold f_X12_longest_45 at hE
  refine s_50 C dX12_longest_45 hE (fun S1 hE => ?_)
  refine j_aload_n C dX12_longest_46 0 rfl ?_
  refine g_X12_39_41 C dX12_longest_47 ?_
  refine j_iload_n C dX12_longest_50 3 rfl ?_
  refine l_50 C dX12_longest_51 hE (fun v2 hE => ?_)
  refine j_if_eq (tgt := 70) C dX12_longest_52 rfl hE (fun hE => ?_) (fun hE => ?_)
  · exact p_X12_longest_70 C Q hg hk78 x1 x2 x3 S1 hE
  · refine j_iload_n C dX12_longest_55 3 rfl ?_
    refine k_X12_95_X12_bits C dX12_longest_56 hE (Nat.le_of_ble_eq_true rfl) (Nat.le_of_ble_eq_true rfl) (Nat.le_of_ble_eq_true rfl) (fun v4 S3 hE => ?_)
    refine j_iload_n C dX12_longest_59 2 rfl ?_
    refine j_icmp_le (tgt := 70) C dX12_longest_60 rfl hE (fun hE => ?_) (fun hE => ?_)
    · exact p_X12_longest_70 C Q hg hk78 x1 x2 x3 S3 hE
    · refine j_iload_n C dX12_longest_63 3 rfl ?_
      refine k_X12_95_X12_bits C dX12_longest_64 hE (Nat.le_of_ble_eq_true rfl) (Nat.le_of_ble_eq_true rfl) (Nat.le_of_ble_eq_true rfl) (fun v6 S5 hE => ?_)
      refine j_goto (tgt := 71) C dX12_longest_67 rfl ?_
      refine j_sub [0, 1, 3] rfl ?_
      exact p_X12_longest_71 C Q hg hk78 v6 x1 x3 S5 hE
set_option maxRecDepth 100000 in
theorem p_X12_longest_16 {X : jX} {D : va_G} {ad : Nat → Nat} {cy : Nat → ClassId} (C : jC X (jMain D ad cy) RX12 cX12_longest (some .int) 4 3 69) {z : Int32 × jS} (Q : jRet X (jMain D ad cy) (some (.int z.1), z.2)) {g : Int32 → Int32 → Int32 → jS → Option (Int32 × jS)} (hg : ∀ (x1 : Int32) (x2 : Int32) (x3 : Int32) (S : jS), g x1 x2 x3 S = some z → jJ X (jMain D ad cy) 16 [(0, .ref (ad 41)), (1, .int x1), (2, .int x2), (3, .int x3)] [] S) {k78 : Int32 → jS → Option (Int32 × jS)} (hk78 : ∀ (x2 : Int32) (S : jS), k78 x2 S = some z → jJ X (jMain D ad cy) 78 [(2, .int x2)] [] S) (x1 : Int32) (x2 : Int32) (x3 : Int32) (S : jS) (hE : f_X12_longest_16  g k78 x1 x2 x3 S = some z) : jJ X (jMain D ad cy) 16 [(0, .ref (ad 41)), (1, .int x1), (2, .int x2), (3, .int x3)] [] S := by
  unfold f_X12_longest_16 at hE
  refine j_iload_n C dX12_longest_16 3 rfl ?_
  refine j_sipush (v := 256) C dX12_longest_17 jc_sp_256 ?_
  refine j_icmp_ge (tgt := 78) C dX12_longest_20 rfl hE (fun hE => ?_) (fun hE => ?_)
  · refine j_sub [2] rfl ?_
    exact hk78 x2 S hE
  · refine j_aload_n C dX12_longest_23 0 rfl ?_
    refine g_X12_39_41 C dX12_longest_24 ?_
    refine j_iload_n C dX12_longest_27 3 rfl ?_
    refine j_iload_n C dX12_longest_28 3 rfl ?_
    refine j_iload_n C dX12_longest_29 1 rfl ?_
    refine j_iconst (v := (-1)) C dX12_longest_30 jc_ic_m1 ?_
    refine j_ixor C dX12_longest_31 ?_
    refine j_iand C dX12_longest_32 ?_
    refine j_if_ne (tgt := 44) C dX12_longest_33 rfl hE (fun hE => ?_) (fun hE => ?_)
    · refine j_iconst (v := 0) C dX12_longest_44 jc_ic_0 ?_
      exact p_X12_longest_45 C Q hg hk78 0 x3 x1 x2 x3 S hE
    · refine j_aload_n C dX12_longest_36 0 rfl ?_
      refine j_iload_n C dX12_longest_37 3 rfl ?_
      refine k_X12_169_X12_lastsOf C dX12_longest_38 hE (Nat.le_of_ble_eq_true rfl) (Nat.le_of_ble_eq_true rfl) (Nat.le_of_ble_eq_true rfl) (fun v2 S1 hE => ?_)
      refine j_goto (tgt := 45) C dX12_longest_41 rfl ?_
      exact p_X12_longest_45 C Q hg hk78 v2 x3 x1 x2 x3 S1 hE
theorem q_X12_longest_16 {X : jX} {D : va_G} {ad : Nat → Nat} {cy : Nat → ClassId} (C : jC X (jMain D ad cy) RX12 cX12_longest (some .int) 4 3 69) {z : Int32 × jS} (Q : jRet X (jMain D ad cy) (some (.int z.1), z.2)) {k78 : Int32 → jS → Option (Int32 × jS)} (hk78 : ∀ (x2 : Int32) (S : jS), k78 x2 S = some z → jJ X (jMain D ad cy) 78 [(2, .int x2)] [] S) (x1 : Int32) (x2 : Int32) (x3 : Int32) (S : jS) (hE : lp_X12_longest_16  k78 x1 x2 x3 S = some z) : jJ X (jMain D ad cy) 16 [(0, .ref (ad 41)), (1, .int x1), (2, .int x2), (3, .int x3)] [] S :=
  jloop_P (α := Int32 × Int32 × Int32 × jS) (B := (fun g q => f_X12_longest_16  (fun x1 x2 x3 S => g (x1, x2, x3, S)) k78 q.1 q.2.1 q.2.2.1 q.2.2.2)) (P := fun q => jJ X (jMain D ad cy) 16 [(0, .ref (ad 41)), (1, .int q.1), (2, .int q.2.1), (3, .int q.2.2.1)] [] q.2.2.2) (fun g q hg h => p_X12_longest_16 C Q (g := fun x1 x2 x3 S => g (x1, x2, x3, S)) (fun x1 x2 x3 S h => hg (x1, x2, x3, S) h) hk78 q.1 q.2.1 q.2.2.1 q.2.2.2 h) jN (x1, x2, x3, S) hE
set_option maxRecDepth 100000 in
theorem p_X12_longest_78 {X : jX} {D : va_G} {ad : Nat → Nat} {cy : Nat → ClassId} (C : jC X (jMain D ad cy) RX12 cX12_longest (some .int) 4 3 69) {z : Int32 × jS} (Q : jRet X (jMain D ad cy) (some (.int z.1), z.2))  (x2 : Int32) (S : jS) (hE : f_X12_longest_78   x2 S = some z) : jJ X (jMain D ad cy) 78 [(2, .int x2)] [] S := by
  unfold f_X12_longest_78 at hE
  refine j_iload_n C dX12_longest_78 0 rfl ?_
  exact j_iret C Q dX12_longest_79 hE
set_option maxRecDepth 100000 in
theorem p_X12_longest_e {X : jX} {D : va_G} {ad : Nat → Nat} {cy : Nat → ClassId} (C : jC X (jMain D ad cy) RX12 cX12_longest (some .int) 4 3 69) {z : Int32 × jS} (Q : jRet X (jMain D ad cy) (some (.int z.1), z.2))   (S : jS) (hE : f_X12_longest_e    S = some z) : jJ X (jMain D ad cy) 0 [(0, .ref (ad 41))] [] S := by
  unfold f_X12_longest_e at hE
  refine j_aload_n C dX12_longest_0 0 rfl ?_
  refine k_X12_91_X12_lived C dX12_longest_1 hE (Nat.le_of_ble_eq_true rfl) (Nat.le_of_ble_eq_true rfl) (Nat.le_of_ble_eq_true rfl) (fun v2 S1 hE => ?_)
  refine j_istore_n (i := 1) (lv' := [(1, .int v2), (0, .ref (ad 41))]) C dX12_longest_4 rfl (by decide) rfl ?_
  refine j_iconst (v := 0) C dX12_longest_5 jc_ic_0 ?_
  refine j_istore_n (i := 2) (lv' := [(2, .int 0), (1, .int v2), (0, .ref (ad 41))]) C dX12_longest_6 rfl (by decide) rfl ?_
  refine j_aload_n C dX12_longest_7 2 rfl ?_
  refine g_X12_39_41 C dX12_longest_8 ?_
  refine j_iconst (v := 0) C dX12_longest_11 jc_ic_0 ?_
  refine j_iconst (v := 0) C dX12_longest_12 jc_ic_0 ?_
  refine s_50 C dX12_longest_13 hE (fun S3 hE => ?_)
  refine j_iconst (v := 1) C dX12_longest_14 jc_ic_1 ?_
  refine j_istore_n (i := 3) (lv' := [(3, .int 1), (2, .int 0), (1, .int v2), (0, .ref (ad 41))]) C dX12_longest_15 rfl (by decide) rfl ?_
  refine j_sub [3, 2, 1, 0] rfl ?_
  exact q_X12_longest_16 C Q (p_X12_longest_78 C Q ) v2 0 1 S3 hE
theorem c_X12_longest {l : Launch} {D : va_G} {ad : Nat → Nat} {cy : Nat → ClassId} (hO : jOk (jMain D ad cy))  (S : jS) {z : Int32 × jS} (hz : f_X12_longest  S = some z) : Met l yX12_longest (.code yX12_longest cX12_longest 4 (some .int) :: jT) { frames := 3, cells := 0, slots := 0, locals := 69 } (va_Pc [.ref (ad 41)] (jInv (jMain D ad cy) S)) (jQ (jMain D ad cy) (some (.int z.1), z.2)) 0 0 (yA (jMain D ad cy)) :=
  jMet hO (by decide +kernel) rfl (Nat.le_of_ble_eq_true rfl) (fun X _ C Q => p_X12_longest_e C Q  S hz)
set_option maxRecDepth 100000 in
theorem p_X4_settleApart_r22_55 {X : jX} {D : va_G} {ad : Nat → Nat} {cy : Nat → ClassId} (C : jC X (jMain D ad cy) RX4 cX4_settleApart (none) 4 5 119) {z : jS} (Q : jRet X (jMain D ad cy) (none, z)) {g : Int32 → Int32 → jS → Option (jS)} (hg : ∀ (x2 : Int32) (x3 : Int32) (S : jS), g x2 x3 S = some z → jJ X (jMain D ad cy) 18 [(0, .ref (ad 12)), (2, .int x2), (3, .int x3)] [] S) {k61 : Int32 → jS → Option (jS)} (hk61 : ∀ (x2 : Int32) (S : jS), k61 x2 S = some z → jJ X (jMain D ad cy) 61 [(0, .ref (ad 12)), (2, .int x2)] [] S) (x2 : Int32) (x3 : Int32) (S : jS) (hE : f_X4_settleApart_r22_55  g k61 x2 x3 S = some z) : jJ X (jMain D ad cy) 55 [(0, .ref (ad 12)), (2, .int x2), (3, .int x3)] [] S := by
  unfold f_X4_settleApart_r22_55 at hE
  refine j_iinc (v := (x3 + 1)) (lv' := [(3, .int (x3 + 1)), (0, .ref (ad 12)), (2, .int x2)]) C dX4_settleApart_55 2 rfl (congrArg (fun w => x3 + w) jc_ic_1) (by decide) rfl ?_
  refine j_goto (tgt := 18) C dX4_settleApart_58 rfl ?_
  refine j_sub [1, 2, 0] rfl ?_
  exact hg x2 (x3 + 1) S hE
set_option maxRecDepth 100000 in
theorem p_X4_settleApart_r22_18 {X : jX} {D : va_G} {ad : Nat → Nat} {cy : Nat → ClassId} (C : jC X (jMain D ad cy) RX4 cX4_settleApart (none) 4 5 119) {z : jS} (Q : jRet X (jMain D ad cy) (none, z)) {g : Int32 → Int32 → jS → Option (jS)} (hg : ∀ (x2 : Int32) (x3 : Int32) (S : jS), g x2 x3 S = some z → jJ X (jMain D ad cy) 18 [(0, .ref (ad 12)), (2, .int x2), (3, .int x3)] [] S) {k61 : Int32 → jS → Option (jS)} (hk61 : ∀ (x2 : Int32) (S : jS), k61 x2 S = some z → jJ X (jMain D ad cy) 61 [(0, .ref (ad 12)), (2, .int x2)] [] S) (x2 : Int32) (x3 : Int32) (S : jS) (hE : f_X4_settleApart_r22_18  g k61 x2 x3 S = some z) : jJ X (jMain D ad cy) 18 [(0, .ref (ad 12)), (2, .int x2), (3, .int x3)] [] S := by
  unfold f_X4_settleApart_r22_18 at hE
  refine j_iload_n C dX4_settleApart_18 2 rfl ?_
  refine j_aload_n C dX4_settleApart_19 0 rfl ?_
  refine g_X4_41_12 C dX4_settleApart_20 ?_
  refine j_icmp_ge (tgt := 61) C dX4_settleApart_23 rfl hE (fun hE => ?_) (fun hE => ?_)
  · refine j_sub [0, 1] rfl ?_
    exact hk61 x2 S hE
  · refine j_aload_n C dX4_settleApart_26 0 rfl ?_
    refine g_X4_9_12 C dX4_settleApart_27 ?_
    refine j_iload_n C dX4_settleApart_30 1 rfl ?_
    refine l_13 C dX4_settleApart_31 hE (fun v1 hE => ?_)
    refine j_aload_n C dX4_settleApart_32 0 rfl ?_
    refine g_X4_9_12 C dX4_settleApart_33 ?_
    refine j_iload_n C dX4_settleApart_36 2 rfl ?_
    refine l_13 C dX4_settleApart_37 hE (fun v2 hE => ?_)
    refine j_icmp_ne (tgt := 55) C dX4_settleApart_38 rfl hE (fun hE => ?_) (fun hE => ?_)
    · exact p_X4_settleApart_r22_55 C Q hg hk61 x2 x3 S hE
    · refine j_aload_n C dX4_settleApart_41 0 rfl ?_
      refine g_X4_18_12 C dX4_settleApart_42 ?_
      refine j_iload_n C dX4_settleApart_45 1 rfl ?_
      refine j_dup2 C dX4_settleApart_46 rfl rfl ?_
      refine l_15 C dX4_settleApart_47 hE (fun v3 hE => ?_)
      refine j_iconst (v := 1) C dX4_settleApart_48 jc_ic_1 ?_
      refine j_iload_n C dX4_settleApart_49 2 rfl ?_
      refine j_ishl C dX4_settleApart_50 ?_
      refine j_iconst (v := (-1)) C dX4_settleApart_51 jc_ic_m1 ?_
      refine j_ixor C dX4_settleApart_52 ?_
      refine j_iand C dX4_settleApart_53 ?_
      refine s_15 C dX4_settleApart_54 hE (fun S4 hE => ?_)
      exact p_X4_settleApart_r22_55 C Q hg hk61 x2 x3 S4 hE
theorem q_X4_settleApart_r22_18 {X : jX} {D : va_G} {ad : Nat → Nat} {cy : Nat → ClassId} (C : jC X (jMain D ad cy) RX4 cX4_settleApart (none) 4 5 119) {z : jS} (Q : jRet X (jMain D ad cy) (none, z)) {k61 : Int32 → jS → Option (jS)} (hk61 : ∀ (x2 : Int32) (S : jS), k61 x2 S = some z → jJ X (jMain D ad cy) 61 [(0, .ref (ad 12)), (2, .int x2)] [] S) (x2 : Int32) (x3 : Int32) (S : jS) (hE : lp_X4_settleApart_r22_18  k61 x2 x3 S = some z) : jJ X (jMain D ad cy) 18 [(0, .ref (ad 12)), (2, .int x2), (3, .int x3)] [] S :=
  jloop_P (α := Int32 × Int32 × jS) (B := (fun g q => f_X4_settleApart_r22_18  (fun x2 x3 S => g (x2, x3, S)) k61 q.1 q.2.1 q.2.2)) (P := fun q => jJ X (jMain D ad cy) 18 [(0, .ref (ad 12)), (2, .int q.1), (3, .int q.2.1)] [] q.2.2) (fun g q hg h => p_X4_settleApart_r22_18 C Q (g := fun x2 x3 S => g (x2, x3, S)) (fun x2 x3 S h => hg (x2, x3, S) h) hk61 q.1 q.2.1 q.2.2 h) jN (x2, x3, S) hE
set_option maxRecDepth 100000 in
theorem p_X4_settleApart_r22_61 {X : jX} {D : va_G} {ad : Nat → Nat} {cy : Nat → ClassId} (C : jC X (jMain D ad cy) RX4 cX4_settleApart (none) 4 5 119) {z : jS} (Q : jRet X (jMain D ad cy) (none, z)) {g : Int32 → jS → Option (jS)} (hg : ∀ (x2 : Int32) (S : jS), g x2 S = some z → jJ X (jMain D ad cy) 8 [(0, .ref (ad 12)), (2, .int x2)] [] S) {k67 : jS → Option (jS)} (hk67 : ∀  (S : jS), k67  S = some z → jJ X (jMain D ad cy) 67 [] [] S) (x2 : Int32) (S : jS) (hE : f_X4_settleApart_r22_61  g k67 x2 S = some z) : jJ X (jMain D ad cy) 61 [(0, .ref (ad 12)), (2, .int x2)] [] S := by
  unfold f_X4_settleApart_r22_61 at hE
  refine j_iinc (v := (x2 + 1)) (lv' := [(2, .int (x2 + 1)), (0, .ref (ad 12))]) C dX4_settleApart_61 1 rfl (congrArg (fun w => x2 + w) jc_ic_1) (by decide) rfl ?_
  refine j_goto (tgt := 8) C dX4_settleApart_64 rfl ?_
  refine j_sub [1, 0] rfl ?_
  exact hg (x2 + 1) S hE
set_option maxRecDepth 100000 in
theorem p_X4_settleApart_r22_8 {X : jX} {D : va_G} {ad : Nat → Nat} {cy : Nat → ClassId} (C : jC X (jMain D ad cy) RX4 cX4_settleApart (none) 4 5 119) {z : jS} (Q : jRet X (jMain D ad cy) (none, z)) {g : Int32 → jS → Option (jS)} (hg : ∀ (x2 : Int32) (S : jS), g x2 S = some z → jJ X (jMain D ad cy) 8 [(0, .ref (ad 12)), (2, .int x2)] [] S) {k67 : jS → Option (jS)} (hk67 : ∀  (S : jS), k67  S = some z → jJ X (jMain D ad cy) 67 [] [] S) (x2 : Int32) (S : jS) (hE : f_X4_settleApart_r22_8  g k67 x2 S = some z) : jJ X (jMain D ad cy) 8 [(0, .ref (ad 12)), (2, .int x2)] [] S := by
  unfold f_X4_settleApart_r22_8 at hE
  refine j_iload_n C dX4_settleApart_8 1 rfl ?_
  refine j_aload_n C dX4_settleApart_9 0 rfl ?_
  refine g_X4_41_12 C dX4_settleApart_10 ?_
  refine j_icmp_ge (tgt := 67) C dX4_settleApart_13 rfl hE (fun hE => ?_) (fun hE => ?_)
  · refine j_sub [] rfl ?_
    exact hk67  S hE
  · refine j_iconst (v := 0) C dX4_settleApart_16 jc_ic_0 ?_
    refine j_istore_n (i := 3) (lv' := [(3, .int 0), (0, .ref (ad 12)), (2, .int x2)]) C dX4_settleApart_17 rfl (by decide) rfl ?_
    refine j_sub [1, 2, 0] rfl ?_
    exact q_X4_settleApart_r22_18 C Q (p_X4_settleApart_r22_61 C Q hg hk67) x2 0 S hE
theorem q_X4_settleApart_r22_8 {X : jX} {D : va_G} {ad : Nat → Nat} {cy : Nat → ClassId} (C : jC X (jMain D ad cy) RX4 cX4_settleApart (none) 4 5 119) {z : jS} (Q : jRet X (jMain D ad cy) (none, z)) {k67 : jS → Option (jS)} (hk67 : ∀  (S : jS), k67  S = some z → jJ X (jMain D ad cy) 67 [] [] S) (x2 : Int32) (S : jS) (hE : lp_X4_settleApart_r22_8  k67 x2 S = some z) : jJ X (jMain D ad cy) 8 [(0, .ref (ad 12)), (2, .int x2)] [] S :=
  jloop_P (α := Int32 × jS) (B := (fun g q => f_X4_settleApart_r22_8  (fun x2 S => g (x2, S)) k67 q.1 q.2)) (P := fun q => jJ X (jMain D ad cy) 8 [(0, .ref (ad 12)), (2, .int q.1)] [] q.2) (fun g q hg h => p_X4_settleApart_r22_8 C Q (g := fun x2 S => g (x2, S)) (fun x2 S h => hg (x2, S) h) hk67 q.1 q.2 h) jN (x2, S) hE
set_option maxRecDepth 100000 in
theorem p_X4_settleApart_r22_67 {X : jX} {D : va_G} {ad : Nat → Nat} {cy : Nat → ClassId} (C : jC X (jMain D ad cy) RX4 cX4_settleApart (none) 4 5 119) {z : jS} (Q : jRet X (jMain D ad cy) (none, z))   (S : jS) (hE : f_X4_settleApart_r22_67    S = some z) : jJ X (jMain D ad cy) 67 [] [] S := by
  unfold f_X4_settleApart_r22_67 at hE
  exact j_vret C Q dX4_settleApart_67 hE
set_option maxRecDepth 100000 in
theorem p_X4_settleApart_r22_e {X : jX} {D : va_G} {ad : Nat → Nat} {cy : Nat → ClassId} (C : jC X (jMain D ad cy) RX4 cX4_settleApart (none) 4 5 119) {z : jS} (Q : jRet X (jMain D ad cy) (none, z))   (S : jS) (hE : f_X4_settleApart_r22_e    S = some z) : jJ X (jMain D ad cy) 0 [(0, .ref (ad 12)), (1, .ref (ad 22))] [] S := by
  unfold f_X4_settleApart_r22_e at hE
  refine j_aload_n C dX4_settleApart_0 0 rfl ?_
  refine j_iconst (v := 0) C dX4_settleApart_1 jc_ic_0 ?_
  refine j_aload_n C dX4_settleApart_2 1 rfl ?_
  refine k_X4_69_X4_settle_r22 C dX4_settleApart_3 hE (Nat.le_of_ble_eq_true rfl) (Nat.le_of_ble_eq_true rfl) (Nat.le_of_ble_eq_true rfl) (fun S1 hE => ?_)
  refine j_iconst (v := 0) C dX4_settleApart_6 jc_ic_0 ?_
  refine j_istore_n (i := 2) (lv' := [(2, .int 0), (0, .ref (ad 12)), (1, .ref (ad 22))]) C dX4_settleApart_7 rfl (by decide) rfl ?_
  refine j_sub [1, 0] rfl ?_
  exact q_X4_settleApart_r22_8 C Q (p_X4_settleApart_r22_67 C Q ) 0 S1 hE
theorem c_X4_settleApart_r22 {l : Launch} {D : va_G} {ad : Nat → Nat} {cy : Nat → ClassId} (hO : jOk (jMain D ad cy))  (S : jS) {z : jS} (hz : f_X4_settleApart_r22  S = some z) : Met l yX4_settleApart (.code yX4_settleApart cX4_settleApart 4 (none) :: jT) { frames := 5, cells := 0, slots := 0, locals := 119 } (va_Pc [.ref (ad 12), .ref (ad 22)] (jInv (jMain D ad cy) S)) (jQ (jMain D ad cy) (none, z)) 0 0 (yA (jMain D ad cy)) :=
  jMet hO (by decide +kernel) rfl (Nat.le_of_ble_eq_true rfl) (fun X _ C Q => p_X4_settleApart_r22_e C Q  S hz)
theorem k_X11_187_X4_settleApart_r22 {X : jX} {D : va_G} {ad : Nat → Nat} {cy : Nat → ClassId} {cc : ByteArray} {ret : Option FieldType} {nL fr lo pc : Nat} {lv : List (Nat × Value)} {st : List Value} {S : jS} {β : Type} {z : β} (C : jC X (jMain D ad cy) RX11 cc ret nL fr lo)  {E : jS → Option β} (d : decode cc pc = .ok (.invokevirtual 187, 3)) (hE : jcv (f_X4_settleApart_r22  S) E = some z) (hfr : 6 ≤ fr) (hlo : 142 ≤ lo) (hst : (st.map fun v => v.category).sum ≤ 8) (K : ∀ S1, E S1 = some z → jJ X (jMain D ad cy) (pc + 3) lv st S1) : jJ X (jMain D ad cy) pc lv (.ref (ad 22) :: .ref (ad 12) :: st) S := by
  obtain ⟨v, h1, h2⟩ := jcv_some hE
  exact j_callV (k := 12) (ci := 4) (T := TX4) (N := 7) (n := 1) (As := [.ref (ad 22)]) C (c_X4_settleApart_r22 C.2.2.2.2.2.2.1  S h1) tw_670 tw_671 tw_672 tw_78 tw_673 (by decide +kernel) rfl (by decide : 12 < 56) rfl rfl hfr hlo hst rfl d (K _ h2)
set_option maxRecDepth 100000 in
theorem p_X4_endsOf_67 {X : jX} {D : va_G} {ad : Nat → Nat} {cy : Nat → ClassId} (C : jC X (jMain D ad cy) RX4 cX4_endsOf (some .int) 6 0 0) {z : Int32 × jS} (Q : jRet X (jMain D ad cy) (some (.int z.1), z.2)) {g : Int32 → Int32 → Int32 → jS → Option (Int32 × jS)} (hg : ∀ (x1 : Int32) (x2 : Int32) (x3 : Int32) (S : jS), g x1 x2 x3 S = some z → jJ X (jMain D ad cy) 4 [(0, .ref (ad 12)), (1, .int x1), (2, .int x2), (3, .int x3)] [] S) {k73 : Int32 → jS → Option (Int32 × jS)} (hk73 : ∀ (x2 : Int32) (S : jS), k73 x2 S = some z → jJ X (jMain D ad cy) 73 [(2, .int x2)] [] S) (x1 : Int32) (x2 : Int32) (x3 : Int32) (S : jS) (hE : f_X4_endsOf_67  g k73 x1 x2 x3 S = some z) : jJ X (jMain D ad cy) 67 [(0, .ref (ad 12)), (1, .int x1), (2, .int x2), (3, .int x3)] [] S := by
  unfold f_X4_endsOf_67 at hE
  refine j_iinc (v := (x3 + 1)) (lv' := [(3, .int (x3 + 1)), (0, .ref (ad 12)), (1, .int x1), (2, .int x2)]) C dX4_endsOf_67 3 rfl (congrArg (fun w => x3 + w) jc_ic_1) (by decide) rfl ?_
  refine j_goto (tgt := 4) C dX4_endsOf_70 rfl ?_
  refine j_sub [1, 2, 3, 0] rfl ?_
  exact hg x1 x2 (x3 + 1) S hE
set_option maxRecDepth 100000 in
theorem p_X4_endsOf_61 {X : jX} {D : va_G} {ad : Nat → Nat} {cy : Nat → ClassId} (C : jC X (jMain D ad cy) RX4 cX4_endsOf (some .int) 6 0 0) {z : Int32 × jS} (Q : jRet X (jMain D ad cy) (some (.int z.1), z.2)) {g : Int32 → Int32 → Int32 → jS → Option (Int32 × jS)} (hg : ∀ (x1 : Int32) (x2 : Int32) (x3 : Int32) (S : jS), g x1 x2 x3 S = some z → jJ X (jMain D ad cy) 4 [(0, .ref (ad 12)), (1, .int x1), (2, .int x2), (3, .int x3)] [] S) {k73 : Int32 → jS → Option (Int32 × jS)} (hk73 : ∀ (x2 : Int32) (S : jS), k73 x2 S = some z → jJ X (jMain D ad cy) 73 [(2, .int x2)] [] S) (x1 : Int32) (x2 : Int32) (x3 : Int32) (S : jS) (hE : f_X4_endsOf_61  g k73 x1 x2 x3 S = some z) : jJ X (jMain D ad cy) 61 [(0, .ref (ad 12)), (1, .int x1), (2, .int x2), (3, .int x3)] [] S := by
  unfold f_X4_endsOf_61 at hE
  refine j_iload_n C dX4_endsOf_61 2 rfl ?_
  refine j_iconst (v := 1) C dX4_endsOf_62 jc_ic_1 ?_
  refine j_iload_n C dX4_endsOf_63 3 rfl ?_
  refine j_ishl C dX4_endsOf_64 ?_
  refine j_ior C dX4_endsOf_65 ?_
  refine j_istore_n (i := 2) (lv' := [(2, .int (x2 ||| (1 <<< (x3 &&& 31)))), (0, .ref (ad 12)), (1, .int x1), (3, .int x3)]) C dX4_endsOf_66 rfl (by decide) rfl ?_
  refine j_sub [1, 2, 0, 3] rfl ?_
  exact p_X4_endsOf_67 C Q hg hk73 x1 (x2 ||| (1 <<< (x3 &&& 31))) x3 S hE
set_option maxRecDepth 100000 in
theorem p_X4_endsOf_32 {X : jX} {D : va_G} {ad : Nat → Nat} {cy : Nat → ClassId} (C : jC X (jMain D ad cy) RX4 cX4_endsOf (some .int) 6 0 0) {z : Int32 × jS} (Q : jRet X (jMain D ad cy) (some (.int z.1), z.2)) {g : Int32 → Int32 → Int32 → jS → Option (Int32 × jS)} (hg : ∀ (x1 : Int32) (x2 : Int32) (x3 : Int32) (S : jS), g x1 x2 x3 S = some z → jJ X (jMain D ad cy) 4 [(0, .ref (ad 12)), (1, .int x1), (2, .int x2), (3, .int x3)] [] S) {k73 : Int32 → jS → Option (Int32 × jS)} (hk73 : ∀ (x2 : Int32) (S : jS), k73 x2 S = some z → jJ X (jMain D ad cy) 73 [(2, .int x2)] [] S) (a0 : Int32) (x1 : Int32) (x2 : Int32) (x3 : Int32) (x4 : Int32) (S : jS) (hE : f_X4_endsOf_32  g k73 a0 x1 x2 x3 x4 S = some z) : jJ X (jMain D ad cy) 32 [(0, .ref (ad 12)), (1, .int x1), (2, .int x2), (3, .int x3), (4, .int x4)] [.int a0] S := by
  unfold f_X4_endsOf_32 at hE
  refine j_istore (lv' := [(5, .int a0), (0, .ref (ad 12)), (1, .int x1), (2, .int x2), (3, .int x3), (4, .int x4)]) C dX4_endsOf_32 (by decide) rfl ?_
  refine j_iload C dX4_endsOf_34 0 rfl ?_
  refine j_if_eq (tgt := 67) C dX4_endsOf_36 rfl hE (fun hE => ?_) (fun hE => ?_)
  · refine j_sub [1, 2, 3, 4] rfl ?_
    exact p_X4_endsOf_67 C Q hg hk73 x1 x2 x3 S hE
  · refine j_iload C dX4_endsOf_39 5 rfl ?_
    refine j_if_eq (tgt := 61) C dX4_endsOf_41 rfl hE (fun hE => ?_) (fun hE => ?_)
    · refine j_sub [1, 2, 3, 4] rfl ?_
      exact p_X4_endsOf_61 C Q hg hk73 x1 x2 x3 S hE
    · refine j_aload_n C dX4_endsOf_44 1 rfl ?_
      refine g_X4_24_12 C dX4_endsOf_45 ?_
      refine j_iload C dX4_endsOf_48 5 rfl ?_
      refine l_17 C dX4_endsOf_50 hE (fun v1 hE => ?_)
      refine j_aload_n C dX4_endsOf_51 1 rfl ?_
      refine g_X4_18_12 C dX4_endsOf_52 ?_
      refine j_iload_n C dX4_endsOf_55 4 rfl ?_
      refine l_15 C dX4_endsOf_56 hE (fun v2 hE => ?_)
      refine j_iand C dX4_endsOf_57 ?_
      refine j_if_eq (tgt := 67) C dX4_endsOf_58 rfl hE (fun hE => ?_) (fun hE => ?_)
      · refine j_sub [1, 2, 3, 4] rfl ?_
        exact p_X4_endsOf_67 C Q hg hk73 x1 x2 x3 S hE
      · refine j_sub [1, 2, 3, 4] rfl ?_
        exact p_X4_endsOf_61 C Q hg hk73 x1 x2 x3 S hE
set_option maxRecDepth 100000 in
theorem p_X4_endsOf_4 {X : jX} {D : va_G} {ad : Nat → Nat} {cy : Nat → ClassId} (C : jC X (jMain D ad cy) RX4 cX4_endsOf (some .int) 6 0 0) {z : Int32 × jS} (Q : jRet X (jMain D ad cy) (some (.int z.1), z.2)) {g : Int32 → Int32 → Int32 → jS → Option (Int32 × jS)} (hg : ∀ (x1 : Int32) (x2 : Int32) (x3 : Int32) (S : jS), g x1 x2 x3 S = some z → jJ X (jMain D ad cy) 4 [(0, .ref (ad 12)), (1, .int x1), (2, .int x2), (3, .int x3)] [] S) {k73 : Int32 → jS → Option (Int32 × jS)} (hk73 : ∀ (x2 : Int32) (S : jS), k73 x2 S = some z → jJ X (jMain D ad cy) 73 [(2, .int x2)] [] S) (x1 : Int32) (x2 : Int32) (x3 : Int32) (S : jS) (hE : f_X4_endsOf_4  g k73 x1 x2 x3 S = some z) : jJ X (jMain D ad cy) 4 [(0, .ref (ad 12)), (1, .int x1), (2, .int x2), (3, .int x3)] [] S := by
  unfold f_X4_endsOf_4 at hE
  refine j_iload_n C dX4_endsOf_4 3 rfl ?_
  refine j_aload_n C dX4_endsOf_5 0 rfl ?_
  refine g_X4_41_12 C dX4_endsOf_6 ?_
  refine j_icmp_ge (tgt := 73) C dX4_endsOf_9 rfl hE (fun hE => ?_) (fun hE => ?_)
  · refine j_sub [2] rfl ?_
    exact hk73 x2 S hE
  · refine j_iload_n C dX4_endsOf_12 1 rfl ?_
    refine j_iconst (v := 1) C dX4_endsOf_13 jc_ic_1 ?_
    refine j_iload_n C dX4_endsOf_14 3 rfl ?_
    refine j_ishl C dX4_endsOf_15 ?_
    refine j_iconst (v := (-1)) C dX4_endsOf_16 jc_ic_m1 ?_
    refine j_ixor C dX4_endsOf_17 ?_
    refine j_iand C dX4_endsOf_18 ?_
    refine j_istore (lv' := [(4, .int (x1 &&& ((1 <<< (x3 &&& 31)) ^^^ (-1)))), (0, .ref (ad 12)), (1, .int x1), (2, .int x2), (3, .int x3)]) C dX4_endsOf_19 (by decide) rfl ?_
    refine j_iload C dX4_endsOf_21 0 rfl ?_
    refine j_iload_n C dX4_endsOf_23 2 rfl ?_
    refine j_icmp_eq (tgt := 31) C dX4_endsOf_24 rfl hE (fun hE => ?_) (fun hE => ?_)
    · refine j_iconst (v := 0) C dX4_endsOf_31 jc_ic_0 ?_
      refine j_sub [1, 2, 3, 4, 0] rfl ?_
      exact p_X4_endsOf_32 C Q hg hk73 0 x1 x2 x3 (x1 &&& ((1 <<< (x3 &&& 31)) ^^^ (-1))) S hE
    · refine j_iconst (v := 1) C dX4_endsOf_27 jc_ic_1 ?_
      refine j_goto (tgt := 32) C dX4_endsOf_28 rfl ?_
      refine j_sub [1, 2, 3, 4, 0] rfl ?_
      exact p_X4_endsOf_32 C Q hg hk73 1 x1 x2 x3 (x1 &&& ((1 <<< (x3 &&& 31)) ^^^ (-1))) S hE
theorem q_X4_endsOf_4 {X : jX} {D : va_G} {ad : Nat → Nat} {cy : Nat → ClassId} (C : jC X (jMain D ad cy) RX4 cX4_endsOf (some .int) 6 0 0) {z : Int32 × jS} (Q : jRet X (jMain D ad cy) (some (.int z.1), z.2)) {k73 : Int32 → jS → Option (Int32 × jS)} (hk73 : ∀ (x2 : Int32) (S : jS), k73 x2 S = some z → jJ X (jMain D ad cy) 73 [(2, .int x2)] [] S) (x1 : Int32) (x2 : Int32) (x3 : Int32) (S : jS) (hE : lp_X4_endsOf_4  k73 x1 x2 x3 S = some z) : jJ X (jMain D ad cy) 4 [(0, .ref (ad 12)), (1, .int x1), (2, .int x2), (3, .int x3)] [] S :=
  jloop_P (α := Int32 × Int32 × Int32 × jS) (B := (fun g q => f_X4_endsOf_4  (fun x1 x2 x3 S => g (x1, x2, x3, S)) k73 q.1 q.2.1 q.2.2.1 q.2.2.2)) (P := fun q => jJ X (jMain D ad cy) 4 [(0, .ref (ad 12)), (1, .int q.1), (2, .int q.2.1), (3, .int q.2.2.1)] [] q.2.2.2) (fun g q hg h => p_X4_endsOf_4 C Q (g := fun x1 x2 x3 S => g (x1, x2, x3, S)) (fun x1 x2 x3 S h => hg (x1, x2, x3, S) h) hk73 q.1 q.2.1 q.2.2.1 q.2.2.2 h) jN (x1, x2, x3, S) hE
set_option maxRecDepth 100000 in
theorem p_X4_endsOf_73 {X : jX} {D : va_G} {ad : Nat → Nat} {cy : Nat → ClassId} (C : jC X (jMain D ad cy) RX4 cX4_endsOf (some .int) 6 0 0) {z : Int32 × jS} (Q : jRet X (jMain D ad cy) (some (.int z.1), z.2))  (x2 : Int32) (S : jS) (hE : f_X4_endsOf_73   x2 S = some z) : jJ X (jMain D ad cy) 73 [(2, .int x2)] [] S := by
  unfold f_X4_endsOf_73 at hE
  refine j_iload_n C dX4_endsOf_73 0 rfl ?_
  exact j_iret C Q dX4_endsOf_74 hE
set_option maxRecDepth 100000 in
theorem p_X4_endsOf_e {X : jX} {D : va_G} {ad : Nat → Nat} {cy : Nat → ClassId} (C : jC X (jMain D ad cy) RX4 cX4_endsOf (some .int) 6 0 0) {z : Int32 × jS} (Q : jRet X (jMain D ad cy) (some (.int z.1), z.2))  (x1 : Int32) (S : jS) (hE : f_X4_endsOf_e   x1 S = some z) : jJ X (jMain D ad cy) 0 [(0, .ref (ad 12)), (1, .int x1)] [] S := by
  unfold f_X4_endsOf_e at hE
  refine j_iconst (v := 0) C dX4_endsOf_0 jc_ic_0 ?_
  refine j_istore_n (i := 2) (lv' := [(2, .int 0), (0, .ref (ad 12)), (1, .int x1)]) C dX4_endsOf_1 rfl (by decide) rfl ?_
  refine j_iconst (v := 0) C dX4_endsOf_2 jc_ic_0 ?_
  refine j_istore_n (i := 3) (lv' := [(3, .int 0), (2, .int 0), (0, .ref (ad 12)), (1, .int x1)]) C dX4_endsOf_3 rfl (by decide) rfl ?_
  refine j_sub [2, 3, 1, 0] rfl ?_
  exact q_X4_endsOf_4 C Q (p_X4_endsOf_73 C Q ) x1 0 0 S hE
theorem c_X4_endsOf {l : Launch} {D : va_G} {ad : Nat → Nat} {cy : Nat → ClassId} (hO : jOk (jMain D ad cy)) (x1 : Int32) (S : jS) {z : Int32 × jS} (hz : f_X4_endsOf x1 S = some z) : Met l yX4_endsOf (.code yX4_endsOf cX4_endsOf 6 (some .int) :: jT) { frames := 0, cells := 0, slots := 0, locals := 0 } (va_Pc [.ref (ad 12), .int x1] (jInv (jMain D ad cy) S)) (jQ (jMain D ad cy) (some (.int z.1), z.2)) 0 0 (yA (jMain D ad cy)) :=
  jMet hO (by decide +kernel) rfl (Nat.le_of_ble_eq_true rfl) (fun X _ C Q => p_X4_endsOf_e C Q x1 S hz)
theorem k_X4_73_X4_endsOf {X : jX} {D : va_G} {ad : Nat → Nat} {cy : Nat → ClassId} {cc : ByteArray} {ret : Option FieldType} {nL fr lo pc : Nat} {lv : List (Nat × Value)} {st : List Value} {S : jS} {β : Type} {z : β} (C : jC X (jMain D ad cy) RX4 cc ret nL fr lo) {a0 : Int32} {E : Int32 → jS → Option β} (d : decode cc pc = .ok (.invokevirtual 73, 3)) (hE : jcl (f_X4_endsOf a0 S) E = some z) (hfr : 1 ≤ fr) (hlo : 25 ≤ lo) (hst : (st.map fun v => v.category).sum ≤ 8) (K : ∀ (v : Int32) (S1 : jS), E v S1 = some z → jJ X (jMain D ad cy) (pc + 3) lv (.int v :: st) S1) : jJ X (jMain D ad cy) pc lv (.int a0 :: .ref (ad 12) :: st) S := by
  obtain ⟨v, h1, h2⟩ := jcl_some hE
  exact j_callV (k := 12) (ci := 4) (T := TX4) (N := 7) (n := 1) (As := [.int a0]) C (c_X4_endsOf C.2.2.2.2.2.2.1 a0 S h1) tw_679 tw_681 tw_19 tw_78 tw_682 (by decide +kernel) rfl (by decide : 12 < 56) rfl rfl hfr hlo hst rfl d (K _ _ h2)
set_option maxRecDepth 100000 in
theorem p_X4_longestRow_43 {X : jX} {D : va_G} {ad : Nat → Nat} {cy : Nat → ClassId} (C : jC X (jMain D ad cy) RX4 cX4_longestRow (some .int) 3 1 25) {z : Int32 × jS} (Q : jRet X (jMain D ad cy) (some (.int z.1), z.2)) {g : Int32 → Int32 → jS → Option (Int32 × jS)} (hg : ∀ (x1 : Int32) (x2 : Int32) (S : jS), g x1 x2 S = some z → jJ X (jMain D ad cy) 4 [(0, .ref (ad 12)), (1, .int x1), (2, .int x2)] [] S) {k49 : Int32 → jS → Option (Int32 × jS)} (hk49 : ∀ (x1 : Int32) (S : jS), k49 x1 S = some z → jJ X (jMain D ad cy) 49 [(1, .int x1)] [] S) (x1 : Int32) (x2 : Int32) (S : jS) (hE : f_X4_longestRow_43  g k49 x1 x2 S = some z) : jJ X (jMain D ad cy) 43 [(0, .ref (ad 12)), (1, .int x1), (2, .int x2)] [] S := by
  unfold f_X4_longestRow_43 at hE
  refine j_iinc (v := (x2 + 1)) (lv' := [(2, .int (x2 + 1)), (0, .ref (ad 12)), (1, .int x1)]) C dX4_longestRow_43 2 rfl (congrArg (fun w => x2 + w) jc_ic_1) (by decide) rfl ?_
  refine j_goto (tgt := 4) C dX4_longestRow_46 rfl ?_
  refine j_sub [1, 2, 0] rfl ?_
  exact hg x1 (x2 + 1) S hE
set_option maxRecDepth 100000 in
theorem p_X4_longestRow_4 {X : jX} {D : va_G} {ad : Nat → Nat} {cy : Nat → ClassId} (C : jC X (jMain D ad cy) RX4 cX4_longestRow (some .int) 3 1 25) {z : Int32 × jS} (Q : jRet X (jMain D ad cy) (some (.int z.1), z.2)) {g : Int32 → Int32 → jS → Option (Int32 × jS)} (hg : ∀ (x1 : Int32) (x2 : Int32) (S : jS), g x1 x2 S = some z → jJ X (jMain D ad cy) 4 [(0, .ref (ad 12)), (1, .int x1), (2, .int x2)] [] S) {k49 : Int32 → jS → Option (Int32 × jS)} (hk49 : ∀ (x1 : Int32) (S : jS), k49 x1 S = some z → jJ X (jMain D ad cy) 49 [(1, .int x1)] [] S) (x1 : Int32) (x2 : Int32) (S : jS) (hE : f_X4_longestRow_4  g k49 x1 x2 S = some z) : jJ X (jMain D ad cy) 4 [(0, .ref (ad 12)), (1, .int x1), (2, .int x2)] [] S := by
  unfold f_X4_longestRow_4 at hE
  refine j_iload_n C dX4_longestRow_4 2 rfl ?_
  refine j_iconst (v := 1) C dX4_longestRow_5 jc_ic_1 ?_
  refine j_aload_n C dX4_longestRow_6 0 rfl ?_
  refine g_X4_41_12 C dX4_longestRow_7 ?_
  refine j_ishl C dX4_longestRow_10 ?_
  refine j_icmp_ge (tgt := 49) C dX4_longestRow_11 rfl hE (fun hE => ?_) (fun hE => ?_)
  · refine j_sub [1] rfl ?_
    exact hk49 x1 S hE
  · refine j_aload_n C dX4_longestRow_14 0 rfl ?_
    refine g_X4_24_12 C dX4_longestRow_15 ?_
    refine j_iload_n C dX4_longestRow_18 2 rfl ?_
    refine j_aload_n C dX4_longestRow_19 0 rfl ?_
    refine j_iload_n C dX4_longestRow_20 2 rfl ?_
    refine k_X4_73_X4_endsOf C dX4_longestRow_21 hE (Nat.le_of_ble_eq_true rfl) (Nat.le_of_ble_eq_true rfl) (Nat.le_of_ble_eq_true rfl) (fun v2 S1 hE => ?_)
    refine s_17 C dX4_longestRow_24 hE (fun S3 hE => ?_)
    refine j_aload_n C dX4_longestRow_25 0 rfl ?_
    refine g_X4_24_12 C dX4_longestRow_26 ?_
    refine j_iload_n C dX4_longestRow_29 2 rfl ?_
    refine l_17 C dX4_longestRow_30 hE (fun v4 hE => ?_)
    refine j_if_eq (tgt := 43) C dX4_longestRow_31 rfl hE (fun hE => ?_) (fun hE => ?_)
    · exact p_X4_longestRow_43 C Q hg hk49 x1 x2 S3 hE
    · refine j_iload_n C dX4_longestRow_34 1 rfl ?_
      refine j_iload_n C dX4_longestRow_35 2 rfl ?_
      refine k_X4_31_J6_bitCount_0f7a4 C dX4_longestRow_36 hE (Nat.le_of_ble_eq_true rfl) (Nat.le_of_ble_eq_true rfl) (Nat.le_of_ble_eq_true rfl) (fun v6 S5 hE => ?_)
      refine j_mmax C tm_683 tm_684 tm_87 tm_685 dX4_longestRow_39 (Nat.le_of_ble_eq_true rfl) (Nat.le_of_ble_eq_true rfl) ?_
      refine j_istore_n (i := 1) (lv' := [(1, .int (if x1 < v6 then v6 else x1)), (0, .ref (ad 12)), (2, .int x2)]) C dX4_longestRow_42 rfl (by decide) rfl ?_
      refine j_sub [1, 0, 2] rfl ?_
      exact p_X4_longestRow_43 C Q hg hk49 (if x1 < v6 then v6 else x1) x2 S5 hE
theorem q_X4_longestRow_4 {X : jX} {D : va_G} {ad : Nat → Nat} {cy : Nat → ClassId} (C : jC X (jMain D ad cy) RX4 cX4_longestRow (some .int) 3 1 25) {z : Int32 × jS} (Q : jRet X (jMain D ad cy) (some (.int z.1), z.2)) {k49 : Int32 → jS → Option (Int32 × jS)} (hk49 : ∀ (x1 : Int32) (S : jS), k49 x1 S = some z → jJ X (jMain D ad cy) 49 [(1, .int x1)] [] S) (x1 : Int32) (x2 : Int32) (S : jS) (hE : lp_X4_longestRow_4  k49 x1 x2 S = some z) : jJ X (jMain D ad cy) 4 [(0, .ref (ad 12)), (1, .int x1), (2, .int x2)] [] S :=
  jloop_P (α := Int32 × Int32 × jS) (B := (fun g q => f_X4_longestRow_4  (fun x1 x2 S => g (x1, x2, S)) k49 q.1 q.2.1 q.2.2)) (P := fun q => jJ X (jMain D ad cy) 4 [(0, .ref (ad 12)), (1, .int q.1), (2, .int q.2.1)] [] q.2.2) (fun g q hg h => p_X4_longestRow_4 C Q (g := fun x1 x2 S => g (x1, x2, S)) (fun x1 x2 S h => hg (x1, x2, S) h) hk49 q.1 q.2.1 q.2.2 h) jN (x1, x2, S) hE
set_option maxRecDepth 100000 in
theorem p_X4_longestRow_49 {X : jX} {D : va_G} {ad : Nat → Nat} {cy : Nat → ClassId} (C : jC X (jMain D ad cy) RX4 cX4_longestRow (some .int) 3 1 25) {z : Int32 × jS} (Q : jRet X (jMain D ad cy) (some (.int z.1), z.2))  (x1 : Int32) (S : jS) (hE : f_X4_longestRow_49   x1 S = some z) : jJ X (jMain D ad cy) 49 [(1, .int x1)] [] S := by
  unfold f_X4_longestRow_49 at hE
  refine j_iload_n C dX4_longestRow_49 0 rfl ?_
  exact j_iret C Q dX4_longestRow_50 hE
set_option maxRecDepth 100000 in
theorem p_X4_longestRow_e {X : jX} {D : va_G} {ad : Nat → Nat} {cy : Nat → ClassId} (C : jC X (jMain D ad cy) RX4 cX4_longestRow (some .int) 3 1 25) {z : Int32 × jS} (Q : jRet X (jMain D ad cy) (some (.int z.1), z.2))   (S : jS) (hE : f_X4_longestRow_e    S = some z) : jJ X (jMain D ad cy) 0 [(0, .ref (ad 12))] [] S := by
  unfold f_X4_longestRow_e at hE
  refine j_iconst (v := 0) C dX4_longestRow_0 jc_ic_0 ?_
  refine j_istore_n (i := 1) (lv' := [(1, .int 0), (0, .ref (ad 12))]) C dX4_longestRow_1 rfl (by decide) rfl ?_
  refine j_iconst (v := 1) C dX4_longestRow_2 jc_ic_1 ?_
  refine j_istore_n (i := 2) (lv' := [(2, .int 1), (1, .int 0), (0, .ref (ad 12))]) C dX4_longestRow_3 rfl (by decide) rfl ?_
  refine j_sub [2, 1, 0] rfl ?_
  exact q_X4_longestRow_4 C Q (p_X4_longestRow_49 C Q ) 0 1 S hE
theorem c_X4_longestRow {l : Launch} {D : va_G} {ad : Nat → Nat} {cy : Nat → ClassId} (hO : jOk (jMain D ad cy))  (S : jS) {z : Int32 × jS} (hz : f_X4_longestRow  S = some z) : Met l yX4_longestRow (.code yX4_longestRow cX4_longestRow 3 (some .int) :: jT) { frames := 1, cells := 0, slots := 0, locals := 25 } (va_Pc [.ref (ad 12)] (jInv (jMain D ad cy) S)) (jQ (jMain D ad cy) (some (.int z.1), z.2)) 0 0 (yA (jMain D ad cy)) :=
  jMet hO (by decide +kernel) rfl (Nat.le_of_ble_eq_true rfl) (fun X _ C Q => p_X4_longestRow_e C Q  S hz)
theorem k_X11_191_X4_longestRow {X : jX} {D : va_G} {ad : Nat → Nat} {cy : Nat → ClassId} {cc : ByteArray} {ret : Option FieldType} {nL fr lo pc : Nat} {lv : List (Nat × Value)} {st : List Value} {S : jS} {β : Type} {z : β} (C : jC X (jMain D ad cy) RX11 cc ret nL fr lo)  {E : Int32 → jS → Option β} (d : decode cc pc = .ok (.invokevirtual 191, 3)) (hE : jcl (f_X4_longestRow  S) E = some z) (hfr : 2 ≤ fr) (hlo : 47 ≤ lo) (hst : (st.map fun v => v.category).sum ≤ 8) (K : ∀ (v : Int32) (S1 : jS), E v S1 = some z → jJ X (jMain D ad cy) (pc + 3) lv (.int v :: st) S1) : jJ X (jMain D ad cy) pc lv (.ref (ad 12) :: st) S := by
  obtain ⟨v, h1, h2⟩ := jcl_some hE
  exact j_callV (k := 12) (ci := 4) (T := TX4) (N := 7) (n := 0) (As := []) C (c_X4_longestRow C.2.2.2.2.2.2.1  S h1) tw_675 tw_676 tw_677 tw_78 tw_678 (by decide +kernel) rfl (by decide : 12 < 56) rfl rfl hfr hlo hst rfl d (K _ _ h2)
set_option maxRecDepth 100000 in
theorem p_X11_longest_e {X : jX} {D : va_G} {ad : Nat → Nat} {cy : Nat → ClassId} (C : jC X (jMain D ad cy) RX11 cX11_longest (some .int) 1 6 142) {z : Int32 × jS} (Q : jRet X (jMain D ad cy) (some (.int z.1), z.2))   (S : jS) (hE : f_X11_longest_e    S = some z) : jJ X (jMain D ad cy) 0 [(0, .ref (ad 0))] [] S := by
  unfold f_X11_longest_e at hE
  refine j_aload_n C dX11_longest_0 0 rfl ?_
  refine g_X11_30_0 C dX11_longest_1 ?_
  refine j_aload_n C dX11_longest_4 0 rfl ?_
  refine g_X11_44_0 C dX11_longest_5 ?_
  refine g_X11_96_21 C dX11_longest_8 ?_
  refine k_X11_187_X4_settleApart_r22 C dX11_longest_11 hE (Nat.le_of_ble_eq_true rfl) (Nat.le_of_ble_eq_true rfl) (Nat.le_of_ble_eq_true rfl) (fun S1 hE => ?_)
  refine j_aload_n C dX11_longest_14 0 rfl ?_
  refine g_X11_30_0 C dX11_longest_15 ?_
  refine k_X11_191_X4_longestRow C dX11_longest_18 hE (Nat.le_of_ble_eq_true rfl) (Nat.le_of_ble_eq_true rfl) (Nat.le_of_ble_eq_true rfl) (fun v3 S2 hE => ?_)
  exact j_iret C Q dX11_longest_21 hE
theorem c_X11_longest {l : Launch} {D : va_G} {ad : Nat → Nat} {cy : Nat → ClassId} (hO : jOk (jMain D ad cy))  (S : jS) {z : Int32 × jS} (hz : f_X11_longest  S = some z) : Met l yX11_longest (.code yX11_longest cX11_longest 1 (some .int) :: jT) { frames := 6, cells := 0, slots := 0, locals := 142 } (va_Pc [.ref (ad 0)] (jInv (jMain D ad cy) S)) (jQ (jMain D ad cy) (some (.int z.1), z.2)) 0 0 (yA (jMain D ad cy)) :=
  jMet hO (by decide +kernel) rfl (Nat.le_of_ble_eq_true rfl) (fun X _ C Q => p_X11_longest_e C Q  S hz)
set_option maxRecDepth 100000 in
theorem p_X12_areAllApart_69 {X : jX} {D : va_G} {ad : Nat → Nat} {cy : Nat → ClassId} (C : jC X (jMain D ad cy) RX12 cX12_areAllApart (some .boolean) 6 2 43) {z : Int32 × jS} (Q : jRet X (jMain D ad cy) (some (.int z.1), z.2)) {g : Int32 → Int32 → Int32 → Int32 → jS → Option (Int32 × jS)} (hg : ∀ (x1 : Int32) (x2 : Int32) (x3 : Int32) (x4 : Int32) (S : jS), g x1 x2 x3 x4 S = some z → jJ X (jMain D ad cy) 13 [(0, .ref (ad 41)), (1, .int x1), (2, .int x2), (3, .int x3), (4, .int x4)] [] S) {k76 : Int32 → Int32 → Int32 → jS → Option (Int32 × jS)} (hk76 : ∀ (x1 : Int32) (x2 : Int32) (x3 : Int32) (S : jS), k76 x1 x2 x3 S = some z → jJ X (jMain D ad cy) 76 [(0, .ref (ad 41)), (1, .int x1), (2, .int x2), (3, .int x3)] [] S) (a0 : Int32) (x1 : Int32) (x3 : Int32) (x4 : Int32) (S : jS) (hE : f_X12_areAllApart_69  g k76 a0 x1 x3 x4 S = some z) : jJ X (jMain D ad cy) 69 [(0, .ref (ad 41)), (1, .int x1), (3, .int x3), (4, .int x4)] [.int a0] S := by
  unfold f_X12_areAllApart_69 at hE
  refine j_istore_n (i := 2) (lv' := [(2, .int a0), (0, .ref (ad 41)), (1, .int x1), (3, .int x3), (4, .int x4)]) C dX12_areAllApart_69 rfl (by decide) rfl ?_
  refine j_iinc (v := (x4 + 1)) (lv' := [(4, .int (x4 + 1)), (2, .int a0), (0, .ref (ad 41)), (1, .int x1), (3, .int x3)]) C dX12_areAllApart_70 4 rfl (congrArg (fun w => x4 + w) jc_ic_1) (by decide) rfl ?_
  refine j_goto (tgt := 13) C dX12_areAllApart_73 rfl ?_
  refine j_sub [2, 3, 1, 4, 0] rfl ?_
  exact hg x1 a0 x3 (x4 + 1) S hE
set_option maxRecDepth 100000 in
theorem p_X12_areAllApart_68 {X : jX} {D : va_G} {ad : Nat → Nat} {cy : Nat → ClassId} (C : jC X (jMain D ad cy) RX12 cX12_areAllApart (some .boolean) 6 2 43) {z : Int32 × jS} (Q : jRet X (jMain D ad cy) (some (.int z.1), z.2)) {g : Int32 → Int32 → Int32 → Int32 → jS → Option (Int32 × jS)} (hg : ∀ (x1 : Int32) (x2 : Int32) (x3 : Int32) (x4 : Int32) (S : jS), g x1 x2 x3 x4 S = some z → jJ X (jMain D ad cy) 13 [(0, .ref (ad 41)), (1, .int x1), (2, .int x2), (3, .int x3), (4, .int x4)] [] S) {k76 : Int32 → Int32 → Int32 → jS → Option (Int32 × jS)} (hk76 : ∀ (x1 : Int32) (x2 : Int32) (x3 : Int32) (S : jS), k76 x1 x2 x3 S = some z → jJ X (jMain D ad cy) 76 [(0, .ref (ad 41)), (1, .int x1), (2, .int x2), (3, .int x3)] [] S) (x1 : Int32) (x3 : Int32) (x4 : Int32) (S : jS) (hE : f_X12_areAllApart_68  g k76 x1 x3 x4 S = some z) : jJ X (jMain D ad cy) 68 [(0, .ref (ad 41)), (1, .int x1), (3, .int x3), (4, .int x4)] [] S := by
  unfold f_X12_areAllApart_68 at hE
  refine j_iconst (v := 0) C dX12_areAllApart_68 jc_ic_0 ?_
  exact p_X12_areAllApart_69 C Q hg hk76 0 x1 x3 x4 S hE
set_option maxRecDepth 100000 in
theorem p_X12_areAllApart_64 {X : jX} {D : va_G} {ad : Nat → Nat} {cy : Nat → ClassId} (C : jC X (jMain D ad cy) RX12 cX12_areAllApart (some .boolean) 6 2 43) {z : Int32 × jS} (Q : jRet X (jMain D ad cy) (some (.int z.1), z.2)) {g : Int32 → Int32 → Int32 → Int32 → jS → Option (Int32 × jS)} (hg : ∀ (x1 : Int32) (x2 : Int32) (x3 : Int32) (x4 : Int32) (S : jS), g x1 x2 x3 x4 S = some z → jJ X (jMain D ad cy) 13 [(0, .ref (ad 41)), (1, .int x1), (2, .int x2), (3, .int x3), (4, .int x4)] [] S) {k76 : Int32 → Int32 → Int32 → jS → Option (Int32 × jS)} (hk76 : ∀ (x1 : Int32) (x2 : Int32) (x3 : Int32) (S : jS), k76 x1 x2 x3 S = some z → jJ X (jMain D ad cy) 76 [(0, .ref (ad 41)), (1, .int x1), (2, .int x2), (3, .int x3)] [] S) (x1 : Int32) (x3 : Int32) (x4 : Int32) (S : jS) (hE : f_X12_areAllApart_64  g k76 x1 x3 x4 S = some z) : jJ X (jMain D ad cy) 64 [(0, .ref (ad 41)), (1, .int x1), (3, .int x3), (4, .int x4)] [] S := by
  unfold f_X12_areAllApart_64 at hE
  refine j_iconst (v := 1) C dX12_areAllApart_64 jc_ic_1 ?_
  refine j_goto (tgt := 69) C dX12_areAllApart_65 rfl ?_
  exact p_X12_areAllApart_69 C Q hg hk76 1 x1 x3 x4 S hE
set_option maxRecDepth 100000 in
theorem p_X12_areAllApart_43 {X : jX} {D : va_G} {ad : Nat → Nat} {cy : Nat → ClassId} (C : jC X (jMain D ad cy) RX12 cX12_areAllApart (some .boolean) 6 2 43) {z : Int32 × jS} (Q : jRet X (jMain D ad cy) (some (.int z.1), z.2)) {g : Int32 → Int32 → Int32 → Int32 → jS → Option (Int32 × jS)} (hg : ∀ (x1 : Int32) (x2 : Int32) (x3 : Int32) (x4 : Int32) (S : jS), g x1 x2 x3 x4 S = some z → jJ X (jMain D ad cy) 13 [(0, .ref (ad 41)), (1, .int x1), (2, .int x2), (3, .int x3), (4, .int x4)] [] S) {k76 : Int32 → Int32 → Int32 → jS → Option (Int32 × jS)} (hk76 : ∀ (x1 : Int32) (x2 : Int32) (x3 : Int32) (S : jS), k76 x1 x2 x3 S = some z → jJ X (jMain D ad cy) 76 [(0, .ref (ad 41)), (1, .int x1), (2, .int x2), (3, .int x3)] [] S) (a0 : Int32) (x1 : Int32) (x2 : Int32) (x3 : Int32) (x4 : Int32) (S : jS) (hE : f_X12_areAllApart_43  g k76 a0 x1 x2 x3 x4 S = some z) : jJ X (jMain D ad cy) 43 [(0, .ref (ad 41)), (1, .int x1), (2, .int x2), (3, .int x3), (4, .int x4)] [.int a0] S := by
  unfold f_X12_areAllApart_43 at hE
  refine j_istore (lv' := [(5, .int a0), (0, .ref (ad 41)), (1, .int x1), (2, .int x2), (3, .int x3), (4, .int x4)]) C dX12_areAllApart_43 (by decide) rfl ?_
  refine j_iload_n C dX12_areAllApart_45 3 rfl ?_
  refine j_if_eq (tgt := 68) C dX12_areAllApart_46 rfl hE (fun hE => ?_) (fun hE => ?_)
  · refine j_sub [1, 2, 4, 5] rfl ?_
    exact p_X12_areAllApart_68 C Q hg hk76 x1 x3 x4 S hE
  · refine j_iload C dX12_areAllApart_49 0 rfl ?_
    refine j_if_eq (tgt := 64) C dX12_areAllApart_51 rfl hE (fun hE => ?_) (fun hE => ?_)
    · refine j_sub [1, 2, 4, 5] rfl ?_
      exact p_X12_areAllApart_64 C Q hg hk76 x1 x3 x4 S hE
    · refine j_aload_n C dX12_areAllApart_54 1 rfl ?_
      refine j_iload_n C dX12_areAllApart_55 4 rfl ?_
      refine j_iload C dX12_areAllApart_56 5 rfl ?_
      refine k_X12_166_X12_areApart C dX12_areAllApart_58 hE (Nat.le_of_ble_eq_true rfl) (Nat.le_of_ble_eq_true rfl) (Nat.le_of_ble_eq_true rfl) (fun v2 S1 hE => ?_)
      refine j_if_eq (tgt := 68) C dX12_areAllApart_61 rfl hE (fun hE => ?_) (fun hE => ?_)
      · refine j_sub [1, 2, 4, 5] rfl ?_
        exact p_X12_areAllApart_68 C Q hg hk76 x1 x3 x4 S1 hE
      · refine j_sub [1, 2, 4, 5] rfl ?_
        exact p_X12_areAllApart_64 C Q hg hk76 x1 x3 x4 S1 hE
set_option maxRecDepth 100000 in
theorem p_X12_areAllApart_42 {X : jX} {D : va_G} {ad : Nat → Nat} {cy : Nat → ClassId} (C : jC X (jMain D ad cy) RX12 cX12_areAllApart (some .boolean) 6 2 43) {z : Int32 × jS} (Q : jRet X (jMain D ad cy) (some (.int z.1), z.2)) {g : Int32 → Int32 → Int32 → Int32 → jS → Option (Int32 × jS)} (hg : ∀ (x1 : Int32) (x2 : Int32) (x3 : Int32) (x4 : Int32) (S : jS), g x1 x2 x3 x4 S = some z → jJ X (jMain D ad cy) 13 [(0, .ref (ad 41)), (1, .int x1), (2, .int x2), (3, .int x3), (4, .int x4)] [] S) {k76 : Int32 → Int32 → Int32 → jS → Option (Int32 × jS)} (hk76 : ∀ (x1 : Int32) (x2 : Int32) (x3 : Int32) (S : jS), k76 x1 x2 x3 S = some z → jJ X (jMain D ad cy) 76 [(0, .ref (ad 41)), (1, .int x1), (2, .int x2), (3, .int x3)] [] S) (x1 : Int32) (x2 : Int32) (x3 : Int32) (x4 : Int32) (S : jS) (hE : f_X12_areAllApart_42  g k76 x1 x2 x3 x4 S = some z) : jJ X (jMain D ad cy) 42 [(0, .ref (ad 41)), (1, .int x1), (2, .int x2), (3, .int x3), (4, .int x4)] [] S := by
  unfold f_X12_areAllApart_42 at hE
  refine j_iconst (v := 0) C dX12_areAllApart_42 jc_ic_0 ?_
  exact p_X12_areAllApart_43 C Q hg hk76 0 x1 x2 x3 x4 S hE
set_option maxRecDepth 100000 in
theorem p_X12_areAllApart_13 {X : jX} {D : va_G} {ad : Nat → Nat} {cy : Nat → ClassId} (C : jC X (jMain D ad cy) RX12 cX12_areAllApart (some .boolean) 6 2 43) {z : Int32 × jS} (Q : jRet X (jMain D ad cy) (some (.int z.1), z.2)) {g : Int32 → Int32 → Int32 → Int32 → jS → Option (Int32 × jS)} (hg : ∀ (x1 : Int32) (x2 : Int32) (x3 : Int32) (x4 : Int32) (S : jS), g x1 x2 x3 x4 S = some z → jJ X (jMain D ad cy) 13 [(0, .ref (ad 41)), (1, .int x1), (2, .int x2), (3, .int x3), (4, .int x4)] [] S) {k76 : Int32 → Int32 → Int32 → jS → Option (Int32 × jS)} (hk76 : ∀ (x1 : Int32) (x2 : Int32) (x3 : Int32) (S : jS), k76 x1 x2 x3 S = some z → jJ X (jMain D ad cy) 76 [(0, .ref (ad 41)), (1, .int x1), (2, .int x2), (3, .int x3)] [] S) (x1 : Int32) (x2 : Int32) (x3 : Int32) (x4 : Int32) (S : jS) (hE : f_X12_areAllApart_13  g k76 x1 x2 x3 x4 S = some z) : jJ X (jMain D ad cy) 13 [(0, .ref (ad 41)), (1, .int x1), (2, .int x2), (3, .int x3), (4, .int x4)] [] S := by
  unfold f_X12_areAllApart_13 at hE
  refine j_iload C dX12_areAllApart_13 4 rfl ?_
  refine j_iload_n C dX12_areAllApart_15 3 rfl ?_
  refine j_icmp_ge (tgt := 76) C dX12_areAllApart_16 rfl hE (fun hE => ?_) (fun hE => ?_)
  · refine j_sub [0, 1, 2, 3] rfl ?_
    exact hk76 x1 x2 x3 S hE
  · refine j_iload_n C dX12_areAllApart_19 1 rfl ?_
    refine j_iload_n C dX12_areAllApart_20 3 rfl ?_
    refine j_ishr C dX12_areAllApart_21 ?_
    refine j_iconst (v := 1) C dX12_areAllApart_22 jc_ic_1 ?_
    refine j_iand C dX12_areAllApart_23 ?_
    refine j_iconst (v := 1) C dX12_areAllApart_24 jc_ic_1 ?_
    refine j_icmp_ne (tgt := 42) C dX12_areAllApart_25 rfl hE (fun hE => ?_) (fun hE => ?_)
    · exact p_X12_areAllApart_42 C Q hg hk76 x1 x2 x3 x4 S hE
    · refine j_iload_n C dX12_areAllApart_28 1 rfl ?_
      refine j_iload C dX12_areAllApart_29 4 rfl ?_
      refine j_ishr C dX12_areAllApart_31 ?_
      refine j_iconst (v := 1) C dX12_areAllApart_32 jc_ic_1 ?_
      refine j_iand C dX12_areAllApart_33 ?_
      refine j_iconst (v := 1) C dX12_areAllApart_34 jc_ic_1 ?_
      refine j_icmp_ne (tgt := 42) C dX12_areAllApart_35 rfl hE (fun hE => ?_) (fun hE => ?_)
      · exact p_X12_areAllApart_42 C Q hg hk76 x1 x2 x3 x4 S hE
      · refine j_iconst (v := 1) C dX12_areAllApart_38 jc_ic_1 ?_
        refine j_goto (tgt := 43) C dX12_areAllApart_39 rfl ?_
        exact p_X12_areAllApart_43 C Q hg hk76 1 x1 x2 x3 x4 S hE
theorem q_X12_areAllApart_13 {X : jX} {D : va_G} {ad : Nat → Nat} {cy : Nat → ClassId} (C : jC X (jMain D ad cy) RX12 cX12_areAllApart (some .boolean) 6 2 43) {z : Int32 × jS} (Q : jRet X (jMain D ad cy) (some (.int z.1), z.2)) {k76 : Int32 → Int32 → Int32 → jS → Option (Int32 × jS)} (hk76 : ∀ (x1 : Int32) (x2 : Int32) (x3 : Int32) (S : jS), k76 x1 x2 x3 S = some z → jJ X (jMain D ad cy) 76 [(0, .ref (ad 41)), (1, .int x1), (2, .int x2), (3, .int x3)] [] S) (x1 : Int32) (x2 : Int32) (x3 : Int32) (x4 : Int32) (S : jS) (hE : lp_X12_areAllApart_13  k76 x1 x2 x3 x4 S = some z) : jJ X (jMain D ad cy) 13 [(0, .ref (ad 41)), (1, .int x1), (2, .int x2), (3, .int x3), (4, .int x4)] [] S :=
  jloop_P (α := Int32 × Int32 × Int32 × Int32 × jS) (B := (fun g q => f_X12_areAllApart_13  (fun x1 x2 x3 x4 S => g (x1, x2, x3, x4, S)) k76 q.1 q.2.1 q.2.2.1 q.2.2.2.1 q.2.2.2.2)) (P := fun q => jJ X (jMain D ad cy) 13 [(0, .ref (ad 41)), (1, .int q.1), (2, .int q.2.1), (3, .int q.2.2.1), (4, .int q.2.2.2.1)] [] q.2.2.2.2) (fun g q hg h => p_X12_areAllApart_13 C Q (g := fun x1 x2 x3 x4 S => g (x1, x2, x3, x4, S)) (fun x1 x2 x3 x4 S h => hg (x1, x2, x3, x4, S) h) hk76 q.1 q.2.1 q.2.2.1 q.2.2.2.1 q.2.2.2.2 h) jN (x1, x2, x3, x4, S) hE
set_option maxRecDepth 100000 in
theorem p_X12_areAllApart_76 {X : jX} {D : va_G} {ad : Nat → Nat} {cy : Nat → ClassId} (C : jC X (jMain D ad cy) RX12 cX12_areAllApart (some .boolean) 6 2 43) {z : Int32 × jS} (Q : jRet X (jMain D ad cy) (some (.int z.1), z.2)) {g : Int32 → Int32 → Int32 → jS → Option (Int32 × jS)} (hg : ∀ (x1 : Int32) (x2 : Int32) (x3 : Int32) (S : jS), g x1 x2 x3 S = some z → jJ X (jMain D ad cy) 4 [(0, .ref (ad 41)), (1, .int x1), (2, .int x2), (3, .int x3)] [] S) {k82 : Int32 → jS → Option (Int32 × jS)} (hk82 : ∀ (x2 : Int32) (S : jS), k82 x2 S = some z → jJ X (jMain D ad cy) 82 [(2, .int x2)] [] S) (x1 : Int32) (x2 : Int32) (x3 : Int32) (S : jS) (hE : f_X12_areAllApart_76  g k82 x1 x2 x3 S = some z) : jJ X (jMain D ad cy) 76 [(0, .ref (ad 41)), (1, .int x1), (2, .int x2), (3, .int x3)] [] S := by
  unfold f_X12_areAllApart_76 at hE
  refine j_iinc (v := (x3 + 1)) (lv' := [(3, .int (x3 + 1)), (0, .ref (ad 41)), (1, .int x1), (2, .int x2)]) C dX12_areAllApart_76 3 rfl (congrArg (fun w => x3 + w) jc_ic_1) (by decide) rfl ?_
  refine j_goto (tgt := 4) C dX12_areAllApart_79 rfl ?_
  refine j_sub [1, 2, 3, 0] rfl ?_
  exact hg x1 x2 (x3 + 1) S hE
set_option maxRecDepth 100000 in
theorem p_X12_areAllApart_4 {X : jX} {D : va_G} {ad : Nat → Nat} {cy : Nat → ClassId} (C : jC X (jMain D ad cy) RX12 cX12_areAllApart (some .boolean) 6 2 43) {z : Int32 × jS} (Q : jRet X (jMain D ad cy) (some (.int z.1), z.2)) {g : Int32 → Int32 → Int32 → jS → Option (Int32 × jS)} (hg : ∀ (x1 : Int32) (x2 : Int32) (x3 : Int32) (S : jS), g x1 x2 x3 S = some z → jJ X (jMain D ad cy) 4 [(0, .ref (ad 41)), (1, .int x1), (2, .int x2), (3, .int x3)] [] S) {k82 : Int32 → jS → Option (Int32 × jS)} (hk82 : ∀ (x2 : Int32) (S : jS), k82 x2 S = some z → jJ X (jMain D ad cy) 82 [(2, .int x2)] [] S) (x1 : Int32) (x2 : Int32) (x3 : Int32) (S : jS) (hE : f_X12_areAllApart_4  g k82 x1 x2 x3 S = some z) : jJ X (jMain D ad cy) 4 [(0, .ref (ad 41)), (1, .int x1), (2, .int x2), (3, .int x3)] [] S := by
  unfold f_X12_areAllApart_4 at hE
  refine j_iload_n C dX12_areAllApart_4 3 rfl ?_
  refine j_bipush (v := 8) C dX12_areAllApart_5 jc_bp_8 ?_
  refine j_icmp_ge (tgt := 82) C dX12_areAllApart_7 rfl hE (fun hE => ?_) (fun hE => ?_)
  · refine j_sub [2] rfl ?_
    exact hk82 x2 S hE
  · refine j_iconst (v := 0) C dX12_areAllApart_10 jc_ic_0 ?_
    refine j_istore (lv' := [(4, .int 0), (0, .ref (ad 41)), (1, .int x1), (2, .int x2), (3, .int x3)]) C dX12_areAllApart_11 (by decide) rfl ?_
    refine j_sub [1, 2, 3, 4, 0] rfl ?_
    exact q_X12_areAllApart_13 C Q (p_X12_areAllApart_76 C Q hg hk82) x1 x2 x3 0 S hE
theorem q_X12_areAllApart_4 {X : jX} {D : va_G} {ad : Nat → Nat} {cy : Nat → ClassId} (C : jC X (jMain D ad cy) RX12 cX12_areAllApart (some .boolean) 6 2 43) {z : Int32 × jS} (Q : jRet X (jMain D ad cy) (some (.int z.1), z.2)) {k82 : Int32 → jS → Option (Int32 × jS)} (hk82 : ∀ (x2 : Int32) (S : jS), k82 x2 S = some z → jJ X (jMain D ad cy) 82 [(2, .int x2)] [] S) (x1 : Int32) (x2 : Int32) (x3 : Int32) (S : jS) (hE : lp_X12_areAllApart_4  k82 x1 x2 x3 S = some z) : jJ X (jMain D ad cy) 4 [(0, .ref (ad 41)), (1, .int x1), (2, .int x2), (3, .int x3)] [] S :=
  jloop_P (α := Int32 × Int32 × Int32 × jS) (B := (fun g q => f_X12_areAllApart_4  (fun x1 x2 x3 S => g (x1, x2, x3, S)) k82 q.1 q.2.1 q.2.2.1 q.2.2.2)) (P := fun q => jJ X (jMain D ad cy) 4 [(0, .ref (ad 41)), (1, .int q.1), (2, .int q.2.1), (3, .int q.2.2.1)] [] q.2.2.2) (fun g q hg h => p_X12_areAllApart_4 C Q (g := fun x1 x2 x3 S => g (x1, x2, x3, S)) (fun x1 x2 x3 S h => hg (x1, x2, x3, S) h) hk82 q.1 q.2.1 q.2.2.1 q.2.2.2 h) jN (x1, x2, x3, S) hE
set_option maxRecDepth 100000 in
theorem p_X12_areAllApart_82 {X : jX} {D : va_G} {ad : Nat → Nat} {cy : Nat → ClassId} (C : jC X (jMain D ad cy) RX12 cX12_areAllApart (some .boolean) 6 2 43) {z : Int32 × jS} (Q : jRet X (jMain D ad cy) (some (.int z.1), z.2))  (x2 : Int32) (S : jS) (hE : f_X12_areAllApart_82   x2 S = some z) : jJ X (jMain D ad cy) 82 [(2, .int x2)] [] S := by
  unfold f_X12_areAllApart_82 at hE
  refine j_iload_n C dX12_areAllApart_82 0 rfl ?_
  exact j_zret C Q dX12_areAllApart_83 hE
set_option maxRecDepth 100000 in
theorem p_X12_areAllApart_e {X : jX} {D : va_G} {ad : Nat → Nat} {cy : Nat → ClassId} (C : jC X (jMain D ad cy) RX12 cX12_areAllApart (some .boolean) 6 2 43) {z : Int32 × jS} (Q : jRet X (jMain D ad cy) (some (.int z.1), z.2))  (x1 : Int32) (S : jS) (hE : f_X12_areAllApart_e   x1 S = some z) : jJ X (jMain D ad cy) 0 [(0, .ref (ad 41)), (1, .int x1)] [] S := by
  unfold f_X12_areAllApart_e at hE
  refine j_iconst (v := 1) C dX12_areAllApart_0 jc_ic_1 ?_
  refine j_istore_n (i := 2) (lv' := [(2, .int 1), (0, .ref (ad 41)), (1, .int x1)]) C dX12_areAllApart_1 rfl (by decide) rfl ?_
  refine j_iconst (v := 0) C dX12_areAllApart_2 jc_ic_0 ?_
  refine j_istore_n (i := 3) (lv' := [(3, .int 0), (2, .int 1), (0, .ref (ad 41)), (1, .int x1)]) C dX12_areAllApart_3 rfl (by decide) rfl ?_
  refine j_sub [2, 3, 1, 0] rfl ?_
  exact q_X12_areAllApart_4 C Q (p_X12_areAllApart_82 C Q ) x1 1 0 S hE
theorem c_X12_areAllApart {l : Launch} {D : va_G} {ad : Nat → Nat} {cy : Nat → ClassId} (hO : jOk (jMain D ad cy)) (x1 : Int32) (S : jS) {z : Int32 × jS} (hz : f_X12_areAllApart x1 S = some z) : Met l yX12_areAllApart (.code yX12_areAllApart cX12_areAllApart 6 (some .boolean) :: jT) { frames := 2, cells := 0, slots := 0, locals := 43 } (va_Pc [.ref (ad 41), .int x1] (jInv (jMain D ad cy) S)) (jQ (jMain D ad cy) (some (.int z.1), z.2)) 0 0 (yA (jMain D ad cy)) :=
  jMet hO (by decide +kernel) rfl (Nat.le_of_ble_eq_true rfl) (fun X _ C Q => p_X12_areAllApart_e C Q x1 S hz)
theorem k_X12_172_X12_areAllApart {X : jX} {D : va_G} {ad : Nat → Nat} {cy : Nat → ClassId} {cc : ByteArray} {ret : Option FieldType} {nL fr lo pc : Nat} {lv : List (Nat × Value)} {st : List Value} {S : jS} {β : Type} {z : β} (C : jC X (jMain D ad cy) RX12 cc ret nL fr lo) {a0 : Int32} {E : Int32 → jS → Option β} (d : decode cc pc = .ok (.invokevirtual 172, 3)) (hE : jcl (f_X12_areAllApart a0 S) E = some z) (hfr : 3 ≤ fr) (hlo : 68 ≤ lo) (hst : (st.map fun v => v.category).sum ≤ 8) (K : ∀ (v : Int32) (S1 : jS), E v S1 = some z → jJ X (jMain D ad cy) (pc + 3) lv (.int v :: st) S1) : jJ X (jMain D ad cy) pc lv (.int a0 :: .ref (ad 41) :: st) S := by
  obtain ⟨v, h1, h2⟩ := jcl_some hE
  exact j_callV (k := 41) (ci := 12) (T := TX12) (N := 25) (n := 1) (As := [.int a0]) C (c_X12_areAllApart C.2.2.2.2.2.2.1 a0 S h1) tw_1120 tw_1122 tw_53 tw_81 tw_1123 (by decide +kernel) rfl (by decide : 41 < 56) rfl rfl hfr hlo hst rfl d (K _ _ h2)
set_option maxRecDepth 100000 in
theorem p_X12_greatest_75 {X : jX} {D : va_G} {ad : Nat → Nat} {cy : Nat → ClassId} (C : jC X (jMain D ad cy) RX12 cX12_greatest (some .int) 5 3 68) {z : Int32 × jS} (Q : jRet X (jMain D ad cy) (some (.int z.1), z.2)) {g : Int32 → Int32 → Int32 → jS → Option (Int32 × jS)} (hg : ∀ (x1 : Int32) (x2 : Int32) (x3 : Int32) (S : jS), g x1 x2 x3 S = some z → jJ X (jMain D ad cy) 21 [(0, .ref (ad 41)), (1, .int x1), (2, .int x2), (3, .int x3)] [] S) {k82 : Int32 → Int32 → jS → Option (Int32 × jS)} (hk82 : ∀ (x1 : Int32) (x2 : Int32) (S : jS), k82 x1 x2 S = some z → jJ X (jMain D ad cy) 82 [(1, .int x1), (2, .int x2)] [] S) (a0 : Int32) (x1 : Int32) (x3 : Int32) (S : jS) (hE : f_X12_greatest_75  g k82 a0 x1 x3 S = some z) : jJ X (jMain D ad cy) 75 [(0, .ref (ad 41)), (1, .int x1), (3, .int x3)] [.int a0] S := by
  unfold f_X12_greatest_75 at hE
  refine j_istore_n (i := 2) (lv' := [(2, .int a0), (0, .ref (ad 41)), (1, .int x1), (3, .int x3)]) C dX12_greatest_75 rfl (by decide) rfl ?_
  refine j_iinc (v := (x3 + 1)) (lv' := [(3, .int (x3 + 1)), (2, .int a0), (0, .ref (ad 41)), (1, .int x1)]) C dX12_greatest_76 3 rfl (congrArg (fun w => x3 + w) jc_ic_1) (by decide) rfl ?_
  refine j_goto (tgt := 21) C dX12_greatest_79 rfl ?_
  refine j_sub [2, 3, 1, 0] rfl ?_
  exact hg x1 a0 (x3 + 1) S hE
set_option maxRecDepth 100000 in
theorem p_X12_greatest_74 {X : jX} {D : va_G} {ad : Nat → Nat} {cy : Nat → ClassId} (C : jC X (jMain D ad cy) RX12 cX12_greatest (some .int) 5 3 68) {z : Int32 × jS} (Q : jRet X (jMain D ad cy) (some (.int z.1), z.2)) {g : Int32 → Int32 → Int32 → jS → Option (Int32 × jS)} (hg : ∀ (x1 : Int32) (x2 : Int32) (x3 : Int32) (S : jS), g x1 x2 x3 S = some z → jJ X (jMain D ad cy) 21 [(0, .ref (ad 41)), (1, .int x1), (2, .int x2), (3, .int x3)] [] S) {k82 : Int32 → Int32 → jS → Option (Int32 × jS)} (hk82 : ∀ (x1 : Int32) (x2 : Int32) (S : jS), k82 x1 x2 S = some z → jJ X (jMain D ad cy) 82 [(1, .int x1), (2, .int x2)] [] S) (x1 : Int32) (x2 : Int32) (x3 : Int32) (S : jS) (hE : f_X12_greatest_74  g k82 x1 x2 x3 S = some z) : jJ X (jMain D ad cy) 74 [(0, .ref (ad 41)), (1, .int x1), (2, .int x2), (3, .int x3)] [] S := by
  unfold f_X12_greatest_74 at hE
  refine j_iload_n C dX12_greatest_74 2 rfl ?_
  refine j_sub [0, 1, 3] rfl ?_
  exact p_X12_greatest_75 C Q hg hk82 x2 x1 x3 S hE
set_option maxRecDepth 100000 in
theorem p_X12_greatest_55 {X : jX} {D : va_G} {ad : Nat → Nat} {cy : Nat → ClassId} (C : jC X (jMain D ad cy) RX12 cX12_greatest (some .int) 5 3 68) {z : Int32 × jS} (Q : jRet X (jMain D ad cy) (some (.int z.1), z.2)) {g : Int32 → Int32 → Int32 → jS → Option (Int32 × jS)} (hg : ∀ (x1 : Int32) (x2 : Int32) (x3 : Int32) (S : jS), g x1 x2 x3 S = some z → jJ X (jMain D ad cy) 21 [(0, .ref (ad 41)), (1, .int x1), (2, .int x2), (3, .int x3)] [] S) {k82 : Int32 → Int32 → jS → Option (Int32 × jS)} (hk82 : ∀ (x1 : Int32) (x2 : Int32) (S : jS), k82 x1 x2 S = some z → jJ X (jMain D ad cy) 82 [(1, .int x1), (2, .int x2)] [] S) (a0 : Int32) (x1 : Int32) (x2 : Int32) (x3 : Int32) (S : jS) (hE : f_X12_greatest_55  g k82 a0 x1 x2 x3 S = some z) : jJ X (jMain D ad cy) 55 [(0, .ref (ad 41)), (1, .int x1), (2, .int x2), (3, .int x3)] [.int a0] S := by
  unfold f_X12_greatest_55 at hE
  refine j_istore (lv' := [(4, .int a0), (0, .ref (ad 41)), (1, .int x1), (2, .int x2), (3, .int x3)]) C dX12_greatest_55 (by decide) rfl ?_
  refine j_iload C dX12_greatest_57 0 rfl ?_
  refine j_if_eq (tgt := 74) C dX12_greatest_59 rfl hE (fun hE => ?_) (fun hE => ?_)
  · refine j_sub [1, 2, 3, 4] rfl ?_
    exact p_X12_greatest_74 C Q hg hk82 x1 x2 x3 S hE
  · refine j_aload_n C dX12_greatest_62 1 rfl ?_
    refine j_iload_n C dX12_greatest_63 4 rfl ?_
    refine k_X12_172_X12_areAllApart C dX12_greatest_64 hE (Nat.le_of_ble_eq_true rfl) (Nat.le_of_ble_eq_true rfl) (Nat.le_of_ble_eq_true rfl) (fun v2 S1 hE => ?_)
    refine j_if_eq (tgt := 74) C dX12_greatest_67 rfl hE (fun hE => ?_) (fun hE => ?_)
    · refine j_sub [1, 2, 3, 4] rfl ?_
      exact p_X12_greatest_74 C Q hg hk82 x1 x2 x3 S1 hE
    · refine j_iload_n C dX12_greatest_70 4 rfl ?_
      refine j_goto (tgt := 75) C dX12_greatest_71 rfl ?_
      refine j_sub [1, 2, 4] rfl ?_
      exact p_X12_greatest_75 C Q hg hk82 x3 x1 x3 S1 hE
set_option maxRecDepth 100000 in
theorem p_X12_greatest_54 {X : jX} {D : va_G} {ad : Nat → Nat} {cy : Nat → ClassId} (C : jC X (jMain D ad cy) RX12 cX12_greatest (some .int) 5 3 68) {z : Int32 × jS} (Q : jRet X (jMain D ad cy) (some (.int z.1), z.2)) {g : Int32 → Int32 → Int32 → jS → Option (Int32 × jS)} (hg : ∀ (x1 : Int32) (x2 : Int32) (x3 : Int32) (S : jS), g x1 x2 x3 S = some z → jJ X (jMain D ad cy) 21 [(0, .ref (ad 41)), (1, .int x1), (2, .int x2), (3, .int x3)] [] S) {k82 : Int32 → Int32 → jS → Option (Int32 × jS)} (hk82 : ∀ (x1 : Int32) (x2 : Int32) (S : jS), k82 x1 x2 S = some z → jJ X (jMain D ad cy) 82 [(1, .int x1), (2, .int x2)] [] S) (x1 : Int32) (x2 : Int32) (x3 : Int32) (S : jS) (hE : f_X12_greatest_54  g k82 x1 x2 x3 S = some z) : jJ X (jMain D ad cy) 54 [(0, .ref (ad 41)), (1, .int x1), (2, .int x2), (3, .int x3)] [] S := by
  unfold f_X12_greatest_54 at hE
  refine j_iconst (v := 0) C dX12_greatest_54 jc_ic_0 ?_
  exact p_X12_greatest_55 C Q hg hk82 0 x1 x2 x3 S hE
set_option maxRecDepth 100000 in
theorem p_X12_greatest_21 {X : jX} {D : va_G} {ad : Nat → Nat} {cy : Nat → ClassId} (C : jC X (jMain D ad cy) RX12 cX12_greatest (some .int) 5 3 68) {z : Int32 × jS} (Q : jRet X (jMain D ad cy) (some (.int z.1), z.2)) {g : Int32 → Int32 → Int32 → jS → Option (Int32 × jS)} (hg : ∀ (x1 : Int32) (x2 : Int32) (x3 : Int32) (S : jS), g x1 x2 x3 S = some z → jJ X (jMain D ad cy) 21 [(0, .ref (ad 41)), (1, .int x1), (2, .int x2), (3, .int x3)] [] S) {k82 : Int32 → Int32 → jS → Option (Int32 × jS)} (hk82 : ∀ (x1 : Int32) (x2 : Int32) (S : jS), k82 x1 x2 S = some z → jJ X (jMain D ad cy) 82 [(1, .int x1), (2, .int x2)] [] S) (x1 : Int32) (x2 : Int32) (x3 : Int32) (S : jS) (hE : f_X12_greatest_21  g k82 x1 x2 x3 S = some z) : jJ X (jMain D ad cy) 21 [(0, .ref (ad 41)), (1, .int x1), (2, .int x2), (3, .int x3)] [] S := by
  unfold f_X12_greatest_21 at hE
  refine j_iload_n C dX12_greatest_21 3 rfl ?_
  refine j_sipush (v := 256) C dX12_greatest_22 jc_sp_256 ?_
  refine j_icmp_ge (tgt := 82) C dX12_greatest_25 rfl hE (fun hE => ?_) (fun hE => ?_)
  · refine j_sub [1, 2] rfl ?_
    exact hk82 x1 x2 S hE
  · refine j_iload_n C dX12_greatest_28 3 rfl ?_
    refine k_X12_95_X12_bits C dX12_greatest_29 hE (Nat.le_of_ble_eq_true rfl) (Nat.le_of_ble_eq_true rfl) (Nat.le_of_ble_eq_true rfl) (fun v2 S1 hE => ?_)
    refine j_iload_n C dX12_greatest_32 2 rfl ?_
    refine k_X12_95_X12_bits C dX12_greatest_33 hE (Nat.le_of_ble_eq_true rfl) (Nat.le_of_ble_eq_true rfl) (Nat.le_of_ble_eq_true rfl) (fun v4 S3 hE => ?_)
    refine j_icmp_le (tgt := 54) C dX12_greatest_36 rfl hE (fun hE => ?_) (fun hE => ?_)
    · exact p_X12_greatest_54 C Q hg hk82 x1 x2 x3 S3 hE
    · refine j_iload_n C dX12_greatest_39 3 rfl ?_
      refine j_aload_n C dX12_greatest_40 0 rfl ?_
      refine k_X12_91_X12_lived C dX12_greatest_41 hE (Nat.le_of_ble_eq_true rfl) (Nat.le_of_ble_eq_true rfl) (Nat.le_of_ble_eq_true rfl) (fun v6 S5 hE => ?_)
      refine j_iconst (v := (-1)) C dX12_greatest_44 jc_ic_m1 ?_
      refine j_ixor C dX12_greatest_45 ?_
      refine j_iand C dX12_greatest_46 ?_
      refine j_if_ne (tgt := 54) C dX12_greatest_47 rfl hE (fun hE => ?_) (fun hE => ?_)
      · exact p_X12_greatest_54 C Q hg hk82 x1 x2 x3 S5 hE
      · refine j_iconst (v := 1) C dX12_greatest_50 jc_ic_1 ?_
        refine j_goto (tgt := 55) C dX12_greatest_51 rfl ?_
        exact p_X12_greatest_55 C Q hg hk82 1 x1 x2 x3 S5 hE
theorem q_X12_greatest_21 {X : jX} {D : va_G} {ad : Nat → Nat} {cy : Nat → ClassId} (C : jC X (jMain D ad cy) RX12 cX12_greatest (some .int) 5 3 68) {z : Int32 × jS} (Q : jRet X (jMain D ad cy) (some (.int z.1), z.2)) {k82 : Int32 → Int32 → jS → Option (Int32 × jS)} (hk82 : ∀ (x1 : Int32) (x2 : Int32) (S : jS), k82 x1 x2 S = some z → jJ X (jMain D ad cy) 82 [(1, .int x1), (2, .int x2)] [] S) (x1 : Int32) (x2 : Int32) (x3 : Int32) (S : jS) (hE : lp_X12_greatest_21  k82 x1 x2 x3 S = some z) : jJ X (jMain D ad cy) 21 [(0, .ref (ad 41)), (1, .int x1), (2, .int x2), (3, .int x3)] [] S :=
  jloop_P (α := Int32 × Int32 × Int32 × jS) (B := (fun g q => f_X12_greatest_21  (fun x1 x2 x3 S => g (x1, x2, x3, S)) k82 q.1 q.2.1 q.2.2.1 q.2.2.2)) (P := fun q => jJ X (jMain D ad cy) 21 [(0, .ref (ad 41)), (1, .int q.1), (2, .int q.2.1), (3, .int q.2.2.1)] [] q.2.2.2) (fun g q hg h => p_X12_greatest_21 C Q (g := fun x1 x2 x3 S => g (x1, x2, x3, S)) (fun x1 x2 x3 S h => hg (x1, x2, x3, S) h) hk82 q.1 q.2.1 q.2.2.1 q.2.2.2 h) jN (x1, x2, x3, S) hE
set_option maxRecDepth 100000 in
theorem p_X12_greatest_94 {X : jX} {D : va_G} {ad : Nat → Nat} {cy : Nat → ClassId} (C : jC X (jMain D ad cy) RX12 cX12_greatest (some .int) 5 3 68) {z : Int32 × jS} (Q : jRet X (jMain D ad cy) (some (.int z.1), z.2))  (a0 : Int32) (S : jS) (hE : f_X12_greatest_94   a0 S = some z) : jJ X (jMain D ad cy) 94 [] [.int a0] S := by
  unfold f_X12_greatest_94 at hE
  exact j_iret C Q dX12_greatest_94 hE
set_option maxRecDepth 100000 in
theorem p_X12_greatest_82 {X : jX} {D : va_G} {ad : Nat → Nat} {cy : Nat → ClassId} (C : jC X (jMain D ad cy) RX12 cX12_greatest (some .int) 5 3 68) {z : Int32 × jS} (Q : jRet X (jMain D ad cy) (some (.int z.1), z.2))  (x1 : Int32) (x2 : Int32) (S : jS) (hE : f_X12_greatest_82   x1 x2 S = some z) : jJ X (jMain D ad cy) 82 [(1, .int x1), (2, .int x2)] [] S := by
  unfold f_X12_greatest_82 at hE
  refine j_iload_n C dX12_greatest_82 0 rfl ?_
  refine j_if_ne (tgt := 93) C dX12_greatest_83 rfl hE (fun hE => ?_) (fun hE => ?_)
  · refine j_iload_n C dX12_greatest_93 1 rfl ?_
    refine j_sub [] rfl ?_
    exact p_X12_greatest_94 C Q  x2 S hE
  · refine j_iload_n C dX12_greatest_86 1 rfl ?_
    refine k_X12_95_X12_bits C dX12_greatest_87 hE (Nat.le_of_ble_eq_true rfl) (Nat.le_of_ble_eq_true rfl) (Nat.le_of_ble_eq_true rfl) (fun v2 S1 hE => ?_)
    refine j_goto (tgt := 94) C dX12_greatest_90 rfl ?_
    refine j_sub [] rfl ?_
    exact p_X12_greatest_94 C Q  v2 S1 hE
set_option maxRecDepth 100000 in
theorem p_X12_greatest_e {X : jX} {D : va_G} {ad : Nat → Nat} {cy : Nat → ClassId} (C : jC X (jMain D ad cy) RX12 cX12_greatest (some .int) 5 3 68) {z : Int32 × jS} (Q : jRet X (jMain D ad cy) (some (.int z.1), z.2))  (x1 : Int32) (S : jS) (hE : f_X12_greatest_e   x1 S = some z) : jJ X (jMain D ad cy) 0 [(0, .ref (ad 41)), (1, .int x1)] [] S := by
  unfold f_X12_greatest_e at hE
  refine j_iload_n C dX12_greatest_0 1 rfl ?_
  refine j_i2l C dX12_greatest_1 ?_
  refine j_lconst (v := 0) C dX12_greatest_2 jc_lc_0 ?_
  refine j_lconst (v := 1) C dX12_greatest_3 jc_lc_1 ?_
  refine k_X12_59_X12_in C dX12_greatest_4 hE (Nat.le_of_ble_eq_true rfl) (Nat.le_of_ble_eq_true rfl) (Nat.le_of_ble_eq_true rfl) (fun v2 S1 hE => ?_)
  refine j_if_ne (tgt := 17) C dX12_greatest_7 rfl hE (fun hE => ?_) (fun hE => ?_)
  · refine j_iconst (v := 0) C dX12_greatest_17 jc_ic_0 ?_
    refine j_istore_n (i := 2) (lv' := [(2, .int 0), (0, .ref (ad 41)), (1, .int x1)]) C dX12_greatest_18 rfl (by decide) rfl ?_
    refine j_iconst (v := 0) C dX12_greatest_19 jc_ic_0 ?_
    refine j_istore_n (i := 3) (lv' := [(3, .int 0), (2, .int 0), (0, .ref (ad 41)), (1, .int x1)]) C dX12_greatest_20 rfl (by decide) rfl ?_
    refine j_sub [2, 3, 1, 0] rfl ?_
    exact q_X12_greatest_21 C Q (p_X12_greatest_82 C Q ) x1 0 0 S1 hE
  · refine j_aload_n C dX12_greatest_10 0 rfl ?_
    refine j_bipush (v := (-2)) C dX12_greatest_11 jc_bp_m2 ?_
    refine k_X12_87_X12_bad C dX12_greatest_13 hE (Nat.le_of_ble_eq_true rfl) (Nat.le_of_ble_eq_true rfl) (Nat.le_of_ble_eq_true rfl) (fun v4 S3 hE => ?_)
    exact j_iret C Q dX12_greatest_16 hE
theorem c_X12_greatest {l : Launch} {D : va_G} {ad : Nat → Nat} {cy : Nat → ClassId} (hO : jOk (jMain D ad cy)) (x1 : Int32) (S : jS) {z : Int32 × jS} (hz : f_X12_greatest x1 S = some z) : Met l yX12_greatest (.code yX12_greatest cX12_greatest 5 (some .int) :: jT) { frames := 3, cells := 0, slots := 0, locals := 68 } (va_Pc [.ref (ad 41), .int x1] (jInv (jMain D ad cy) S)) (jQ (jMain D ad cy) (some (.int z.1), z.2)) 0 0 (yA (jMain D ad cy)) :=
  jMet hO (by decide +kernel) rfl (Nat.le_of_ble_eq_true rfl) (fun X _ C Q => p_X12_greatest_e C Q x1 S hz)
set_option maxRecDepth 100000 in
theorem p_X4_isApart_38 {X : jX} {D : va_G} {ad : Nat → Nat} {cy : Nat → ClassId} (C : jC X (jMain D ad cy) RX4 cX4_isApart (some .boolean) 4 0 0) {z : Int32 × jS} (Q : jRet X (jMain D ad cy) (some (.int z.1), z.2)) {g : Int32 → Int32 → jS → Option (Int32 × jS)} (hg : ∀ (x1 : Int32) (x2 : Int32) (S : jS), g x1 x2 S = some z → jJ X (jMain D ad cy) 2 [(0, .ref (ad 12)), (1, .int x1), (2, .int x2)] [] S) {k36 : jS → Option (Int32 × jS)} (hk36 : ∀  (S : jS), k36  S = some z → jJ X (jMain D ad cy) 36 [] [] S) {k44 : jS → Option (Int32 × jS)} (hk44 : ∀  (S : jS), k44  S = some z → jJ X (jMain D ad cy) 44 [] [] S) (x1 : Int32) (x2 : Int32) (S : jS) (hE : f_X4_isApart_38  g k36 k44 x1 x2 S = some z) : jJ X (jMain D ad cy) 38 [(0, .ref (ad 12)), (1, .int x1), (2, .int x2)] [] S := by
  unfold f_X4_isApart_38 at hE
  refine j_iinc (v := (x2 + 1)) (lv' := [(2, .int (x2 + 1)), (0, .ref (ad 12)), (1, .int x1)]) C dX4_isApart_38 2 rfl (congrArg (fun w => x2 + w) jc_ic_1) (by decide) rfl ?_
  refine j_goto (tgt := 2) C dX4_isApart_41 rfl ?_
  refine j_sub [1, 2, 0] rfl ?_
  exact hg x1 (x2 + 1) S hE
set_option maxRecDepth 100000 in
theorem p_X4_isApart_2 {X : jX} {D : va_G} {ad : Nat → Nat} {cy : Nat → ClassId} (C : jC X (jMain D ad cy) RX4 cX4_isApart (some .boolean) 4 0 0) {z : Int32 × jS} (Q : jRet X (jMain D ad cy) (some (.int z.1), z.2)) {g : Int32 → Int32 → jS → Option (Int32 × jS)} (hg : ∀ (x1 : Int32) (x2 : Int32) (S : jS), g x1 x2 S = some z → jJ X (jMain D ad cy) 2 [(0, .ref (ad 12)), (1, .int x1), (2, .int x2)] [] S) {k36 : jS → Option (Int32 × jS)} (hk36 : ∀  (S : jS), k36  S = some z → jJ X (jMain D ad cy) 36 [] [] S) {k44 : jS → Option (Int32 × jS)} (hk44 : ∀  (S : jS), k44  S = some z → jJ X (jMain D ad cy) 44 [] [] S) (x1 : Int32) (x2 : Int32) (S : jS) (hE : f_X4_isApart_2  g k36 k44 x1 x2 S = some z) : jJ X (jMain D ad cy) 2 [(0, .ref (ad 12)), (1, .int x1), (2, .int x2)] [] S := by
  unfold f_X4_isApart_2 at hE
  refine j_iload_n C dX4_isApart_2 2 rfl ?_
  refine j_aload_n C dX4_isApart_3 0 rfl ?_
  refine g_X4_41_12 C dX4_isApart_4 ?_
  refine j_icmp_ge (tgt := 44) C dX4_isApart_7 rfl hE (fun hE => ?_) (fun hE => ?_)
  · refine j_sub [] rfl ?_
    exact hk44  S hE
  · refine j_iload_n C dX4_isApart_10 1 rfl ?_
    refine j_iconst (v := 1) C dX4_isApart_11 jc_ic_1 ?_
    refine j_iload_n C dX4_isApart_12 2 rfl ?_
    refine j_ishl C dX4_isApart_13 ?_
    refine j_iconst (v := (-1)) C dX4_isApart_14 jc_ic_m1 ?_
    refine j_ixor C dX4_isApart_15 ?_
    refine j_iand C dX4_isApart_16 ?_
    refine j_istore_n (i := 3) (lv' := [(3, .int (x1 &&& ((1 <<< (x2 &&& 31)) ^^^ (-1)))), (0, .ref (ad 12)), (1, .int x1), (2, .int x2)]) C dX4_isApart_17 rfl (by decide) rfl ?_
    refine j_iload_n C dX4_isApart_18 0 rfl ?_
    refine j_iload_n C dX4_isApart_19 2 rfl ?_
    refine j_icmp_eq (tgt := 38) C dX4_isApart_20 rfl hE (fun hE => ?_) (fun hE => ?_)
    · refine j_sub [1, 2, 3] rfl ?_
      exact p_X4_isApart_38 C Q hg hk36 hk44 x1 x2 S hE
    · refine j_iload_n C dX4_isApart_23 0 rfl ?_
      refine j_aload_n C dX4_isApart_24 1 rfl ?_
      refine g_X4_18_12 C dX4_isApart_25 ?_
      refine j_iload_n C dX4_isApart_28 3 rfl ?_
      refine l_15 C dX4_isApart_29 hE (fun v1 hE => ?_)
      refine j_iconst (v := (-1)) C dX4_isApart_30 jc_ic_m1 ?_
      refine j_ixor C dX4_isApart_31 ?_
      refine j_iand C dX4_isApart_32 ?_
      refine j_if_eq (tgt := 38) C dX4_isApart_33 rfl hE (fun hE => ?_) (fun hE => ?_)
      · refine j_sub [1, 2, 3] rfl ?_
        exact p_X4_isApart_38 C Q hg hk36 hk44 x1 x2 S hE
      · refine j_sub [] rfl ?_
        exact hk36  S hE
theorem q_X4_isApart_2 {X : jX} {D : va_G} {ad : Nat → Nat} {cy : Nat → ClassId} (C : jC X (jMain D ad cy) RX4 cX4_isApart (some .boolean) 4 0 0) {z : Int32 × jS} (Q : jRet X (jMain D ad cy) (some (.int z.1), z.2)) {k36 : jS → Option (Int32 × jS)} (hk36 : ∀  (S : jS), k36  S = some z → jJ X (jMain D ad cy) 36 [] [] S) {k44 : jS → Option (Int32 × jS)} (hk44 : ∀  (S : jS), k44  S = some z → jJ X (jMain D ad cy) 44 [] [] S) (x1 : Int32) (x2 : Int32) (S : jS) (hE : lp_X4_isApart_2  k36 k44 x1 x2 S = some z) : jJ X (jMain D ad cy) 2 [(0, .ref (ad 12)), (1, .int x1), (2, .int x2)] [] S :=
  jloop_P (α := Int32 × Int32 × jS) (B := (fun g q => f_X4_isApart_2  (fun x1 x2 S => g (x1, x2, S)) k36 k44 q.1 q.2.1 q.2.2)) (P := fun q => jJ X (jMain D ad cy) 2 [(0, .ref (ad 12)), (1, .int q.1), (2, .int q.2.1)] [] q.2.2) (fun g q hg h => p_X4_isApart_2 C Q (g := fun x1 x2 S => g (x1, x2, S)) (fun x1 x2 S h => hg (x1, x2, S) h) hk36 hk44 q.1 q.2.1 q.2.2 h) jN (x1, x2, S) hE
set_option maxRecDepth 100000 in
theorem p_X4_isApart_36 {X : jX} {D : va_G} {ad : Nat → Nat} {cy : Nat → ClassId} (C : jC X (jMain D ad cy) RX4 cX4_isApart (some .boolean) 4 0 0) {z : Int32 × jS} (Q : jRet X (jMain D ad cy) (some (.int z.1), z.2))   (S : jS) (hE : f_X4_isApart_36    S = some z) : jJ X (jMain D ad cy) 36 [] [] S := by
  unfold f_X4_isApart_36 at hE
  refine j_iconst (v := 0) C dX4_isApart_36 jc_ic_0 ?_
  exact j_zret C Q dX4_isApart_37 hE
set_option maxRecDepth 100000 in
theorem p_X4_isApart_44 {X : jX} {D : va_G} {ad : Nat → Nat} {cy : Nat → ClassId} (C : jC X (jMain D ad cy) RX4 cX4_isApart (some .boolean) 4 0 0) {z : Int32 × jS} (Q : jRet X (jMain D ad cy) (some (.int z.1), z.2))   (S : jS) (hE : f_X4_isApart_44    S = some z) : jJ X (jMain D ad cy) 44 [] [] S := by
  unfold f_X4_isApart_44 at hE
  refine j_iconst (v := 1) C dX4_isApart_44 jc_ic_1 ?_
  exact j_zret C Q dX4_isApart_45 hE
set_option maxRecDepth 100000 in
theorem p_X4_isApart_e {X : jX} {D : va_G} {ad : Nat → Nat} {cy : Nat → ClassId} (C : jC X (jMain D ad cy) RX4 cX4_isApart (some .boolean) 4 0 0) {z : Int32 × jS} (Q : jRet X (jMain D ad cy) (some (.int z.1), z.2))  (x1 : Int32) (S : jS) (hE : f_X4_isApart_e   x1 S = some z) : jJ X (jMain D ad cy) 0 [(0, .ref (ad 12)), (1, .int x1)] [] S := by
  unfold f_X4_isApart_e at hE
  refine j_iconst (v := 0) C dX4_isApart_0 jc_ic_0 ?_
  refine j_istore_n (i := 2) (lv' := [(2, .int 0), (0, .ref (ad 12)), (1, .int x1)]) C dX4_isApart_1 rfl (by decide) rfl ?_
  refine j_sub [1, 2, 0] rfl ?_
  exact q_X4_isApart_2 C Q (p_X4_isApart_36 C Q ) (p_X4_isApart_44 C Q ) x1 0 S hE
theorem c_X4_isApart {l : Launch} {D : va_G} {ad : Nat → Nat} {cy : Nat → ClassId} (hO : jOk (jMain D ad cy)) (x1 : Int32) (S : jS) {z : Int32 × jS} (hz : f_X4_isApart x1 S = some z) : Met l yX4_isApart (.code yX4_isApart cX4_isApart 4 (some .boolean) :: jT) { frames := 0, cells := 0, slots := 0, locals := 0 } (va_Pc [.ref (ad 12), .int x1] (jInv (jMain D ad cy) S)) (jQ (jMain D ad cy) (some (.int z.1), z.2)) 0 0 (yA (jMain D ad cy)) :=
  jMet hO (by decide +kernel) rfl (Nat.le_of_ble_eq_true rfl) (fun X _ C Q => p_X4_isApart_e C Q x1 S hz)
theorem k_X4_79_X4_isApart {X : jX} {D : va_G} {ad : Nat → Nat} {cy : Nat → ClassId} {cc : ByteArray} {ret : Option FieldType} {nL fr lo pc : Nat} {lv : List (Nat × Value)} {st : List Value} {S : jS} {β : Type} {z : β} (C : jC X (jMain D ad cy) RX4 cc ret nL fr lo) {a0 : Int32} {E : Int32 → jS → Option β} (d : decode cc pc = .ok (.invokevirtual 79, 3)) (hE : jcl (f_X4_isApart a0 S) E = some z) (hfr : 1 ≤ fr) (hlo : 23 ≤ lo) (hst : (st.map fun v => v.category).sum ≤ 8) (K : ∀ (v : Int32) (S1 : jS), E v S1 = some z → jJ X (jMain D ad cy) (pc + 3) lv (.int v :: st) S1) : jJ X (jMain D ad cy) pc lv (.int a0 :: .ref (ad 12) :: st) S := by
  obtain ⟨v, h1, h2⟩ := jcl_some hE
  exact j_callV (k := 12) (ci := 4) (T := TX4) (N := 7) (n := 1) (As := [.int a0]) C (c_X4_isApart C.2.2.2.2.2.2.1 a0 S h1) tw_694 tw_696 tw_20 tw_78 tw_697 (by decide +kernel) rfl (by decide : 12 < 56) rfl rfl hfr hlo hst rfl d (K _ _ h2)
set_option maxRecDepth 100000 in
theorem p_X4_housesOf_4 {X : jX} {D : va_G} {ad : Nat → Nat} {cy : Nat → ClassId} (C : jC X (jMain D ad cy) RX4 cX4_housesOf (some .int) 4 0 0) {z : Int32 × jS} (Q : jRet X (jMain D ad cy) (some (.int z.1), z.2)) {g : Int32 → Int32 → Int32 → jS → Option (Int32 × jS)} (hg : ∀ (x1 : Int32) (x2 : Int32) (x3 : Int32) (S : jS), g x1 x2 x3 S = some z → jJ X (jMain D ad cy) 4 [(0, .ref (ad 12)), (1, .int x1), (2, .int x2), (3, .int x3)] [] S) {k33 : Int32 → jS → Option (Int32 × jS)} (hk33 : ∀ (x2 : Int32) (S : jS), k33 x2 S = some z → jJ X (jMain D ad cy) 33 [(2, .int x2)] [] S) (x1 : Int32) (x2 : Int32) (x3 : Int32) (S : jS) (hE : f_X4_housesOf_4  g k33 x1 x2 x3 S = some z) : jJ X (jMain D ad cy) 4 [(0, .ref (ad 12)), (1, .int x1), (2, .int x2), (3, .int x3)] [] S := by
  unfold f_X4_housesOf_4 at hE
  refine j_iload_n C dX4_housesOf_4 3 rfl ?_
  refine j_aload_n C dX4_housesOf_5 0 rfl ?_
  refine g_X4_41_12 C dX4_housesOf_6 ?_
  refine j_icmp_ge (tgt := 33) C dX4_housesOf_9 rfl hE (fun hE => ?_) (fun hE => ?_)
  · refine j_sub [2] rfl ?_
    exact hk33 x2 S hE
  · refine j_iload_n C dX4_housesOf_12 2 rfl ?_
    refine j_iload_n C dX4_housesOf_13 1 rfl ?_
    refine j_iload_n C dX4_housesOf_14 3 rfl ?_
    refine j_ishr C dX4_housesOf_15 ?_
    refine j_iconst (v := 1) C dX4_housesOf_16 jc_ic_1 ?_
    refine j_iand C dX4_housesOf_17 ?_
    refine j_aload_n C dX4_housesOf_18 0 rfl ?_
    refine g_X4_15_12 C dX4_housesOf_19 ?_
    refine j_iload_n C dX4_housesOf_22 3 rfl ?_
    refine l_14 C dX4_housesOf_23 hE (fun v1 hE => ?_)
    refine j_ishl C dX4_housesOf_24 ?_
    refine j_ior C dX4_housesOf_25 ?_
    refine j_istore_n (i := 2) (lv' := [(2, .int (x2 ||| (((x1 >>> (x3 &&& 31)) &&& 1) <<< (v1 &&& 31)))), (0, .ref (ad 12)), (1, .int x1), (3, .int x3)]) C dX4_housesOf_26 rfl (by decide) rfl ?_
    refine j_iinc (v := (x3 + 1)) (lv' := [(3, .int (x3 + 1)), (2, .int (x2 ||| (((x1 >>> (x3 &&& 31)) &&& 1) <<< (v1 &&& 31)))), (0, .ref (ad 12)), (1, .int x1)]) C dX4_housesOf_27 3 rfl (congrArg (fun w => x3 + w) jc_ic_1) (by decide) rfl ?_
    refine j_goto (tgt := 4) C dX4_housesOf_30 rfl ?_
    refine j_sub [2, 3, 1, 0] rfl ?_
    exact hg x1 (x2 ||| (((x1 >>> (x3 &&& 31)) &&& 1) <<< (v1 &&& 31))) (x3 + 1) S hE
theorem q_X4_housesOf_4 {X : jX} {D : va_G} {ad : Nat → Nat} {cy : Nat → ClassId} (C : jC X (jMain D ad cy) RX4 cX4_housesOf (some .int) 4 0 0) {z : Int32 × jS} (Q : jRet X (jMain D ad cy) (some (.int z.1), z.2)) {k33 : Int32 → jS → Option (Int32 × jS)} (hk33 : ∀ (x2 : Int32) (S : jS), k33 x2 S = some z → jJ X (jMain D ad cy) 33 [(2, .int x2)] [] S) (x1 : Int32) (x2 : Int32) (x3 : Int32) (S : jS) (hE : lp_X4_housesOf_4  k33 x1 x2 x3 S = some z) : jJ X (jMain D ad cy) 4 [(0, .ref (ad 12)), (1, .int x1), (2, .int x2), (3, .int x3)] [] S :=
  jloop_P (α := Int32 × Int32 × Int32 × jS) (B := (fun g q => f_X4_housesOf_4  (fun x1 x2 x3 S => g (x1, x2, x3, S)) k33 q.1 q.2.1 q.2.2.1 q.2.2.2)) (P := fun q => jJ X (jMain D ad cy) 4 [(0, .ref (ad 12)), (1, .int q.1), (2, .int q.2.1), (3, .int q.2.2.1)] [] q.2.2.2) (fun g q hg h => p_X4_housesOf_4 C Q (g := fun x1 x2 x3 S => g (x1, x2, x3, S)) (fun x1 x2 x3 S h => hg (x1, x2, x3, S) h) hk33 q.1 q.2.1 q.2.2.1 q.2.2.2 h) jN (x1, x2, x3, S) hE
set_option maxRecDepth 100000 in
theorem p_X4_housesOf_33 {X : jX} {D : va_G} {ad : Nat → Nat} {cy : Nat → ClassId} (C : jC X (jMain D ad cy) RX4 cX4_housesOf (some .int) 4 0 0) {z : Int32 × jS} (Q : jRet X (jMain D ad cy) (some (.int z.1), z.2))  (x2 : Int32) (S : jS) (hE : f_X4_housesOf_33   x2 S = some z) : jJ X (jMain D ad cy) 33 [(2, .int x2)] [] S := by
  unfold f_X4_housesOf_33 at hE
  refine j_iload_n C dX4_housesOf_33 0 rfl ?_
  exact j_iret C Q dX4_housesOf_34 hE
set_option maxRecDepth 100000 in
theorem p_X4_housesOf_e {X : jX} {D : va_G} {ad : Nat → Nat} {cy : Nat → ClassId} (C : jC X (jMain D ad cy) RX4 cX4_housesOf (some .int) 4 0 0) {z : Int32 × jS} (Q : jRet X (jMain D ad cy) (some (.int z.1), z.2))  (x1 : Int32) (S : jS) (hE : f_X4_housesOf_e   x1 S = some z) : jJ X (jMain D ad cy) 0 [(0, .ref (ad 12)), (1, .int x1)] [] S := by
  unfold f_X4_housesOf_e at hE
  refine j_iconst (v := 0) C dX4_housesOf_0 jc_ic_0 ?_
  refine j_istore_n (i := 2) (lv' := [(2, .int 0), (0, .ref (ad 12)), (1, .int x1)]) C dX4_housesOf_1 rfl (by decide) rfl ?_
  refine j_iconst (v := 0) C dX4_housesOf_2 jc_ic_0 ?_
  refine j_istore_n (i := 3) (lv' := [(3, .int 0), (2, .int 0), (0, .ref (ad 12)), (1, .int x1)]) C dX4_housesOf_3 rfl (by decide) rfl ?_
  refine j_sub [2, 3, 1, 0] rfl ?_
  exact q_X4_housesOf_4 C Q (p_X4_housesOf_33 C Q ) x1 0 0 S hE
theorem c_X4_housesOf {l : Launch} {D : va_G} {ad : Nat → Nat} {cy : Nat → ClassId} (hO : jOk (jMain D ad cy)) (x1 : Int32) (S : jS) {z : Int32 × jS} (hz : f_X4_housesOf x1 S = some z) : Met l yX4_housesOf (.code yX4_housesOf cX4_housesOf 4 (some .int) :: jT) { frames := 0, cells := 0, slots := 0, locals := 0 } (va_Pc [.ref (ad 12), .int x1] (jInv (jMain D ad cy) S)) (jQ (jMain D ad cy) (some (.int z.1), z.2)) 0 0 (yA (jMain D ad cy)) :=
  jMet hO (by decide +kernel) rfl (Nat.le_of_ble_eq_true rfl) (fun X _ C Q => p_X4_housesOf_e C Q x1 S hz)
theorem k_X4_83_X4_housesOf {X : jX} {D : va_G} {ad : Nat → Nat} {cy : Nat → ClassId} {cc : ByteArray} {ret : Option FieldType} {nL fr lo pc : Nat} {lv : List (Nat × Value)} {st : List Value} {S : jS} {β : Type} {z : β} (C : jC X (jMain D ad cy) RX4 cc ret nL fr lo) {a0 : Int32} {E : Int32 → jS → Option β} (d : decode cc pc = .ok (.invokevirtual 83, 3)) (hE : jcl (f_X4_housesOf a0 S) E = some z) (hfr : 1 ≤ fr) (hlo : 23 ≤ lo) (hst : (st.map fun v => v.category).sum ≤ 8) (K : ∀ (v : Int32) (S1 : jS), E v S1 = some z → jJ X (jMain D ad cy) (pc + 3) lv (.int v :: st) S1) : jJ X (jMain D ad cy) pc lv (.int a0 :: .ref (ad 12) :: st) S := by
  obtain ⟨v, h1, h2⟩ := jcl_some hE
  exact j_callV (k := 12) (ci := 4) (T := TX4) (N := 7) (n := 1) (As := [.int a0]) C (c_X4_housesOf C.2.2.2.2.2.2.1 a0 S h1) tw_698 tw_700 tw_21 tw_78 tw_701 (by decide +kernel) rfl (by decide : 12 < 56) rfl rfl hfr hlo hst rfl d (K _ _ h2)
set_option maxRecDepth 100000 in
theorem p_X4_greatestSet_35 {X : jX} {D : va_G} {ad : Nat → Nat} {cy : Nat → ClassId} (C : jC X (jMain D ad cy) RX4 cX4_greatestSet (some .int) 3 1 23) {z : Int32 × jS} (Q : jRet X (jMain D ad cy) (some (.int z.1), z.2)) {g : Int32 → Int32 → jS → Option (Int32 × jS)} (hg : ∀ (x1 : Int32) (x2 : Int32) (S : jS), g x1 x2 S = some z → jJ X (jMain D ad cy) 4 [(0, .ref (ad 12)), (1, .int x1), (2, .int x2)] [] S) {k41 : Int32 → jS → Option (Int32 × jS)} (hk41 : ∀ (x1 : Int32) (S : jS), k41 x1 S = some z → jJ X (jMain D ad cy) 41 [(0, .ref (ad 12)), (1, .int x1)] [] S) (x1 : Int32) (x2 : Int32) (S : jS) (hE : f_X4_greatestSet_35  g k41 x1 x2 S = some z) : jJ X (jMain D ad cy) 35 [(0, .ref (ad 12)), (1, .int x1), (2, .int x2)] [] S := by
  unfold f_X4_greatestSet_35 at hE
  refine j_iinc (v := (x2 + 1)) (lv' := [(2, .int (x2 + 1)), (0, .ref (ad 12)), (1, .int x1)]) C dX4_greatestSet_35 2 rfl (congrArg (fun w => x2 + w) jc_ic_1) (by decide) rfl ?_
  refine j_goto (tgt := 4) C dX4_greatestSet_38 rfl ?_
  refine j_sub [1, 2, 0] rfl ?_
  exact hg x1 (x2 + 1) S hE
set_option maxRecDepth 100000 in
theorem p_X4_greatestSet_4 {X : jX} {D : va_G} {ad : Nat → Nat} {cy : Nat → ClassId} (C : jC X (jMain D ad cy) RX4 cX4_greatestSet (some .int) 3 1 23) {z : Int32 × jS} (Q : jRet X (jMain D ad cy) (some (.int z.1), z.2)) {g : Int32 → Int32 → jS → Option (Int32 × jS)} (hg : ∀ (x1 : Int32) (x2 : Int32) (S : jS), g x1 x2 S = some z → jJ X (jMain D ad cy) 4 [(0, .ref (ad 12)), (1, .int x1), (2, .int x2)] [] S) {k41 : Int32 → jS → Option (Int32 × jS)} (hk41 : ∀ (x1 : Int32) (S : jS), k41 x1 S = some z → jJ X (jMain D ad cy) 41 [(0, .ref (ad 12)), (1, .int x1)] [] S) (x1 : Int32) (x2 : Int32) (S : jS) (hE : f_X4_greatestSet_4  g k41 x1 x2 S = some z) : jJ X (jMain D ad cy) 4 [(0, .ref (ad 12)), (1, .int x1), (2, .int x2)] [] S := by
  unfold f_X4_greatestSet_4 at hE
  refine j_iload_n C dX4_greatestSet_4 2 rfl ?_
  refine j_iconst (v := 1) C dX4_greatestSet_5 jc_ic_1 ?_
  refine j_aload_n C dX4_greatestSet_6 0 rfl ?_
  refine g_X4_41_12 C dX4_greatestSet_7 ?_
  refine j_ishl C dX4_greatestSet_10 ?_
  refine j_icmp_ge (tgt := 41) C dX4_greatestSet_11 rfl hE (fun hE => ?_) (fun hE => ?_)
  · refine j_sub [0, 1] rfl ?_
    exact hk41 x1 S hE
  · refine j_iload_n C dX4_greatestSet_14 2 rfl ?_
    refine k_X4_31_J6_bitCount_0f7a4 C dX4_greatestSet_15 hE (Nat.le_of_ble_eq_true rfl) (Nat.le_of_ble_eq_true rfl) (Nat.le_of_ble_eq_true rfl) (fun v2 S1 hE => ?_)
    refine j_iload_n C dX4_greatestSet_18 1 rfl ?_
    refine k_X4_31_J6_bitCount_0f7a4 C dX4_greatestSet_19 hE (Nat.le_of_ble_eq_true rfl) (Nat.le_of_ble_eq_true rfl) (Nat.le_of_ble_eq_true rfl) (fun v4 S3 hE => ?_)
    refine j_icmp_le (tgt := 35) C dX4_greatestSet_22 rfl hE (fun hE => ?_) (fun hE => ?_)
    · exact p_X4_greatestSet_35 C Q hg hk41 x1 x2 S3 hE
    · refine j_aload_n C dX4_greatestSet_25 0 rfl ?_
      refine j_iload_n C dX4_greatestSet_26 2 rfl ?_
      refine k_X4_79_X4_isApart C dX4_greatestSet_27 hE (Nat.le_of_ble_eq_true rfl) (Nat.le_of_ble_eq_true rfl) (Nat.le_of_ble_eq_true rfl) (fun v6 S5 hE => ?_)
      refine j_if_eq (tgt := 35) C dX4_greatestSet_30 rfl hE (fun hE => ?_) (fun hE => ?_)
      · exact p_X4_greatestSet_35 C Q hg hk41 x1 x2 S5 hE
      · refine j_iload_n C dX4_greatestSet_33 2 rfl ?_
        refine j_istore_n (i := 1) (lv' := [(1, .int x2), (0, .ref (ad 12)), (2, .int x2)]) C dX4_greatestSet_34 rfl (by decide) rfl ?_
        refine j_sub [1, 0, 2] rfl ?_
        exact p_X4_greatestSet_35 C Q hg hk41 x2 x2 S5 hE
theorem q_X4_greatestSet_4 {X : jX} {D : va_G} {ad : Nat → Nat} {cy : Nat → ClassId} (C : jC X (jMain D ad cy) RX4 cX4_greatestSet (some .int) 3 1 23) {z : Int32 × jS} (Q : jRet X (jMain D ad cy) (some (.int z.1), z.2)) {k41 : Int32 → jS → Option (Int32 × jS)} (hk41 : ∀ (x1 : Int32) (S : jS), k41 x1 S = some z → jJ X (jMain D ad cy) 41 [(0, .ref (ad 12)), (1, .int x1)] [] S) (x1 : Int32) (x2 : Int32) (S : jS) (hE : lp_X4_greatestSet_4  k41 x1 x2 S = some z) : jJ X (jMain D ad cy) 4 [(0, .ref (ad 12)), (1, .int x1), (2, .int x2)] [] S :=
  jloop_P (α := Int32 × Int32 × jS) (B := (fun g q => f_X4_greatestSet_4  (fun x1 x2 S => g (x1, x2, S)) k41 q.1 q.2.1 q.2.2)) (P := fun q => jJ X (jMain D ad cy) 4 [(0, .ref (ad 12)), (1, .int q.1), (2, .int q.2.1)] [] q.2.2) (fun g q hg h => p_X4_greatestSet_4 C Q (g := fun x1 x2 S => g (x1, x2, S)) (fun x1 x2 S h => hg (x1, x2, S) h) hk41 q.1 q.2.1 q.2.2 h) jN (x1, x2, S) hE
set_option maxRecDepth 100000 in
theorem p_X4_greatestSet_41 {X : jX} {D : va_G} {ad : Nat → Nat} {cy : Nat → ClassId} (C : jC X (jMain D ad cy) RX4 cX4_greatestSet (some .int) 3 1 23) {z : Int32 × jS} (Q : jRet X (jMain D ad cy) (some (.int z.1), z.2))  (x1 : Int32) (S : jS) (hE : f_X4_greatestSet_41   x1 S = some z) : jJ X (jMain D ad cy) 41 [(0, .ref (ad 12)), (1, .int x1)] [] S := by
  unfold f_X4_greatestSet_41 at hE
  refine j_aload_n C dX4_greatestSet_41 0 rfl ?_
  refine j_iload_n C dX4_greatestSet_42 1 rfl ?_
  refine k_X4_83_X4_housesOf C dX4_greatestSet_43 hE (Nat.le_of_ble_eq_true rfl) (Nat.le_of_ble_eq_true rfl) (Nat.le_of_ble_eq_true rfl) (fun v2 S1 hE => ?_)
  exact j_iret C Q dX4_greatestSet_46 hE
set_option maxRecDepth 100000 in
theorem p_X4_greatestSet_e {X : jX} {D : va_G} {ad : Nat → Nat} {cy : Nat → ClassId} (C : jC X (jMain D ad cy) RX4 cX4_greatestSet (some .int) 3 1 23) {z : Int32 × jS} (Q : jRet X (jMain D ad cy) (some (.int z.1), z.2))   (S : jS) (hE : f_X4_greatestSet_e    S = some z) : jJ X (jMain D ad cy) 0 [(0, .ref (ad 12))] [] S := by
  unfold f_X4_greatestSet_e at hE
  refine j_iconst (v := 0) C dX4_greatestSet_0 jc_ic_0 ?_
  refine j_istore_n (i := 1) (lv' := [(1, .int 0), (0, .ref (ad 12))]) C dX4_greatestSet_1 rfl (by decide) rfl ?_
  refine j_iconst (v := 1) C dX4_greatestSet_2 jc_ic_1 ?_
  refine j_istore_n (i := 2) (lv' := [(2, .int 1), (1, .int 0), (0, .ref (ad 12))]) C dX4_greatestSet_3 rfl (by decide) rfl ?_
  refine j_sub [2, 1, 0] rfl ?_
  exact q_X4_greatestSet_4 C Q (p_X4_greatestSet_41 C Q ) 0 1 S hE
theorem c_X4_greatestSet {l : Launch} {D : va_G} {ad : Nat → Nat} {cy : Nat → ClassId} (hO : jOk (jMain D ad cy))  (S : jS) {z : Int32 × jS} (hz : f_X4_greatestSet  S = some z) : Met l yX4_greatestSet (.code yX4_greatestSet cX4_greatestSet 3 (some .int) :: jT) { frames := 1, cells := 0, slots := 0, locals := 23 } (va_Pc [.ref (ad 12)] (jInv (jMain D ad cy) S)) (jQ (jMain D ad cy) (some (.int z.1), z.2)) 0 0 (yA (jMain D ad cy)) :=
  jMet hO (by decide +kernel) rfl (Nat.le_of_ble_eq_true rfl) (fun X _ C Q => p_X4_greatestSet_e C Q  S hz)
theorem k_X11_194_X4_greatestSet {X : jX} {D : va_G} {ad : Nat → Nat} {cy : Nat → ClassId} {cc : ByteArray} {ret : Option FieldType} {nL fr lo pc : Nat} {lv : List (Nat × Value)} {st : List Value} {S : jS} {β : Type} {z : β} (C : jC X (jMain D ad cy) RX11 cc ret nL fr lo)  {E : Int32 → jS → Option β} (d : decode cc pc = .ok (.invokevirtual 194, 3)) (hE : jcl (f_X4_greatestSet  S) E = some z) (hfr : 2 ≤ fr) (hlo : 45 ≤ lo) (hst : (st.map fun v => v.category).sum ≤ 8) (K : ∀ (v : Int32) (S1 : jS), E v S1 = some z → jJ X (jMain D ad cy) (pc + 3) lv (.int v :: st) S1) : jJ X (jMain D ad cy) pc lv (.ref (ad 12) :: st) S := by
  obtain ⟨v, h1, h2⟩ := jcl_some hE
  exact j_callV (k := 12) (ci := 4) (T := TX4) (N := 7) (n := 0) (As := []) C (c_X4_greatestSet C.2.2.2.2.2.2.1  S h1) tw_690 tw_691 tw_692 tw_78 tw_693 (by decide +kernel) rfl (by decide : 12 < 56) rfl rfl hfr hlo hst rfl d (K _ _ h2)
set_option maxRecDepth 100000 in
theorem p_X11_greatest_46 {X : jX} {D : va_G} {ad : Nat → Nat} {cy : Nat → ClassId} (C : jC X (jMain D ad cy) RX11 cX11_greatest (some .int) 3 6 142) {z : Int32 × jS} (Q : jRet X (jMain D ad cy) (some (.int z.1), z.2))  (a0 : Int32) (S : jS) (hE : f_X11_greatest_46   a0 S = some z) : jJ X (jMain D ad cy) 46 [] [.int a0] S := by
  unfold f_X11_greatest_46 at hE
  exact j_iret C Q dX11_greatest_46 hE
set_option maxRecDepth 100000 in
theorem p_X11_greatest_e {X : jX} {D : va_G} {ad : Nat → Nat} {cy : Nat → ClassId} (C : jC X (jMain D ad cy) RX11 cX11_greatest (some .int) 3 6 142) {z : Int32 × jS} (Q : jRet X (jMain D ad cy) (some (.int z.1), z.2))  (x1 : Int32) (S : jS) (hE : f_X11_greatest_e   x1 S = some z) : jJ X (jMain D ad cy) 0 [(0, .ref (ad 0)), (1, .int x1)] [] S := by
  unfold f_X11_greatest_e at hE
  refine j_iload_n C dX11_greatest_0 1 rfl ?_
  refine k_X11_160_X11_isBit C dX11_greatest_1 hE (Nat.le_of_ble_eq_true rfl) (Nat.le_of_ble_eq_true rfl) (Nat.le_of_ble_eq_true rfl) (fun v2 S1 hE => ?_)
  refine j_if_ne (tgt := 12) C dX11_greatest_4 rfl hE (fun hE => ?_) (fun hE => ?_)
  · refine j_aload_n C dX11_greatest_12 0 rfl ?_
    refine g_X11_30_0 C dX11_greatest_13 ?_
    refine j_aload_n C dX11_greatest_16 0 rfl ?_
    refine g_X11_44_0 C dX11_greatest_17 ?_
    refine g_X11_96_21 C dX11_greatest_20 ?_
    refine k_X11_187_X4_settleApart_r22 C dX11_greatest_23 hE (Nat.le_of_ble_eq_true rfl) (Nat.le_of_ble_eq_true rfl) (Nat.le_of_ble_eq_true rfl) (fun S3 hE => ?_)
    refine j_aload_n C dX11_greatest_26 0 rfl ?_
    refine g_X11_30_0 C dX11_greatest_27 ?_
    refine k_X11_194_X4_greatestSet C dX11_greatest_30 hE (Nat.le_of_ble_eq_true rfl) (Nat.le_of_ble_eq_true rfl) (Nat.le_of_ble_eq_true rfl) (fun v5 S4 hE => ?_)
    refine j_istore_n (i := 2) (lv' := [(2, .int v5), (0, .ref (ad 0)), (1, .int x1)]) C dX11_greatest_33 rfl (by decide) rfl ?_
    refine j_iload_n C dX11_greatest_34 2 rfl ?_
    refine j_if_ne (tgt := 45) C dX11_greatest_35 rfl hE (fun hE => ?_) (fun hE => ?_)
    · refine j_iload_n C dX11_greatest_45 0 rfl ?_
      refine j_sub [] rfl ?_
      exact p_X11_greatest_46 C Q  v5 S4 hE
    · refine j_iload_n C dX11_greatest_38 0 rfl ?_
      refine k_X11_163_J6_bitCount_0f7a4 C dX11_greatest_39 hE (Nat.le_of_ble_eq_true rfl) (Nat.le_of_ble_eq_true rfl) (Nat.le_of_ble_eq_true rfl) (fun v7 S6 hE => ?_)
      refine j_goto (tgt := 46) C dX11_greatest_42 rfl ?_
      refine j_sub [] rfl ?_
      exact p_X11_greatest_46 C Q  v7 S6 hE
  · refine j_aload_n C dX11_greatest_7 0 rfl ?_
    refine k_X11_74_X11_refuseBad C dX11_greatest_8 hE (Nat.le_of_ble_eq_true rfl) (Nat.le_of_ble_eq_true rfl) (Nat.le_of_ble_eq_true rfl) (fun v9 S8 hE => ?_)
    exact j_iret C Q dX11_greatest_11 hE
theorem c_X11_greatest {l : Launch} {D : va_G} {ad : Nat → Nat} {cy : Nat → ClassId} (hO : jOk (jMain D ad cy)) (x1 : Int32) (S : jS) {z : Int32 × jS} (hz : f_X11_greatest x1 S = some z) : Met l yX11_greatest (.code yX11_greatest cX11_greatest 3 (some .int) :: jT) { frames := 6, cells := 0, slots := 0, locals := 142 } (va_Pc [.ref (ad 0), .int x1] (jInv (jMain D ad cy) S)) (jQ (jMain D ad cy) (some (.int z.1), z.2)) 0 0 (yA (jMain D ad cy)) :=
  jMet hO (by decide +kernel) rfl (Nat.le_of_ble_eq_true rfl) (fun X _ C Q => p_X11_greatest_e C Q x1 S hz)
set_option maxRecDepth 100000 in
theorem p_X12_partsOf_21 {X : jX} {D : va_G} {ad : Nat → Nat} {cy : Nat → ClassId} (C : jC X (jMain D ad cy) RX12 cX12_partsOf (some .int) 3 0 0) {z : Int32 × jS} (Q : jRet X (jMain D ad cy) (some (.int z.1), z.2)) {g : Int32 → Int32 → Int32 → jS → Option (Int32 × jS)} (hg : ∀ (x0 : Int32) (x1 : Int32) (x2 : Int32) (S : jS), g x0 x1 x2 S = some z → jJ X (jMain D ad cy) 4 [(0, .int x0), (1, .int x1), (2, .int x2)] [] S) {k29 : Int32 → jS → Option (Int32 × jS)} (hk29 : ∀ (x1 : Int32) (S : jS), k29 x1 S = some z → jJ X (jMain D ad cy) 29 [(1, .int x1)] [] S) (a0 : Int32) (a1 : Int32) (x0 : Int32) (x2 : Int32) (S : jS) (hE : f_X12_partsOf_21  g k29 a0 a1 x0 x2 S = some z) : jJ X (jMain D ad cy) 21 [(0, .int x0), (2, .int x2)] [.int a0, .int a1] S := by
  unfold f_X12_partsOf_21 at hE
  refine j_iadd C dX12_partsOf_21 ?_
  refine j_istore_n (i := 1) (lv' := [(1, .int (a1 + a0)), (0, .int x0), (2, .int x2)]) C dX12_partsOf_22 rfl (by decide) rfl ?_
  refine j_iinc (v := (x2 + 1)) (lv' := [(2, .int (x2 + 1)), (1, .int (a1 + a0)), (0, .int x0)]) C dX12_partsOf_23 2 rfl (congrArg (fun w => x2 + w) jc_ic_1) (by decide) rfl ?_
  refine j_goto (tgt := 4) C dX12_partsOf_26 rfl ?_
  refine j_sub [2, 1, 0] rfl ?_
  exact hg x0 (a1 + a0) (x2 + 1) S hE
set_option maxRecDepth 100000 in
theorem p_X12_partsOf_4 {X : jX} {D : va_G} {ad : Nat → Nat} {cy : Nat → ClassId} (C : jC X (jMain D ad cy) RX12 cX12_partsOf (some .int) 3 0 0) {z : Int32 × jS} (Q : jRet X (jMain D ad cy) (some (.int z.1), z.2)) {g : Int32 → Int32 → Int32 → jS → Option (Int32 × jS)} (hg : ∀ (x0 : Int32) (x1 : Int32) (x2 : Int32) (S : jS), g x0 x1 x2 S = some z → jJ X (jMain D ad cy) 4 [(0, .int x0), (1, .int x1), (2, .int x2)] [] S) {k29 : Int32 → jS → Option (Int32 × jS)} (hk29 : ∀ (x1 : Int32) (S : jS), k29 x1 S = some z → jJ X (jMain D ad cy) 29 [(1, .int x1)] [] S) (x0 : Int32) (x1 : Int32) (x2 : Int32) (S : jS) (hE : f_X12_partsOf_4  g k29 x0 x1 x2 S = some z) : jJ X (jMain D ad cy) 4 [(0, .int x0), (1, .int x1), (2, .int x2)] [] S := by
  unfold f_X12_partsOf_4 at hE
  refine j_iload_n C dX12_partsOf_4 2 rfl ?_
  refine j_iload_n C dX12_partsOf_5 0 rfl ?_
  refine j_icmp_ge (tgt := 29) C dX12_partsOf_6 rfl hE (fun hE => ?_) (fun hE => ?_)
  · refine j_sub [1] rfl ?_
    exact hk29 x1 S hE
  · refine j_iload_n C dX12_partsOf_9 1 rfl ?_
    refine j_iload_n C dX12_partsOf_10 0 rfl ?_
    refine j_iload_n C dX12_partsOf_11 2 rfl ?_
    refine j_irem C dX12_partsOf_12 hE (fun v1 hE => ?_)
    refine j_if_ne (tgt := 20) C dX12_partsOf_13 rfl hE (fun hE => ?_) (fun hE => ?_)
    · refine j_iconst (v := 0) C dX12_partsOf_20 jc_ic_0 ?_
      refine j_sub [0, 2] rfl ?_
      exact p_X12_partsOf_21 C Q hg hk29 0 x1 x0 x2 S hE
    · refine j_iload_n C dX12_partsOf_16 2 rfl ?_
      refine j_goto (tgt := 21) C dX12_partsOf_17 rfl ?_
      refine j_sub [0, 2] rfl ?_
      exact p_X12_partsOf_21 C Q hg hk29 x2 x1 x0 x2 S hE
theorem q_X12_partsOf_4 {X : jX} {D : va_G} {ad : Nat → Nat} {cy : Nat → ClassId} (C : jC X (jMain D ad cy) RX12 cX12_partsOf (some .int) 3 0 0) {z : Int32 × jS} (Q : jRet X (jMain D ad cy) (some (.int z.1), z.2)) {k29 : Int32 → jS → Option (Int32 × jS)} (hk29 : ∀ (x1 : Int32) (S : jS), k29 x1 S = some z → jJ X (jMain D ad cy) 29 [(1, .int x1)] [] S) (x0 : Int32) (x1 : Int32) (x2 : Int32) (S : jS) (hE : lp_X12_partsOf_4  k29 x0 x1 x2 S = some z) : jJ X (jMain D ad cy) 4 [(0, .int x0), (1, .int x1), (2, .int x2)] [] S :=
  jloop_P (α := Int32 × Int32 × Int32 × jS) (B := (fun g q => f_X12_partsOf_4  (fun x0 x1 x2 S => g (x0, x1, x2, S)) k29 q.1 q.2.1 q.2.2.1 q.2.2.2)) (P := fun q => jJ X (jMain D ad cy) 4 [(0, .int q.1), (1, .int q.2.1), (2, .int q.2.2.1)] [] q.2.2.2) (fun g q hg h => p_X12_partsOf_4 C Q (g := fun x0 x1 x2 S => g (x0, x1, x2, S)) (fun x0 x1 x2 S h => hg (x0, x1, x2, S) h) hk29 q.1 q.2.1 q.2.2.1 q.2.2.2 h) jN (x0, x1, x2, S) hE
set_option maxRecDepth 100000 in
theorem p_X12_partsOf_29 {X : jX} {D : va_G} {ad : Nat → Nat} {cy : Nat → ClassId} (C : jC X (jMain D ad cy) RX12 cX12_partsOf (some .int) 3 0 0) {z : Int32 × jS} (Q : jRet X (jMain D ad cy) (some (.int z.1), z.2))  (x1 : Int32) (S : jS) (hE : f_X12_partsOf_29   x1 S = some z) : jJ X (jMain D ad cy) 29 [(1, .int x1)] [] S := by
  unfold f_X12_partsOf_29 at hE
  refine j_iload_n C dX12_partsOf_29 0 rfl ?_
  exact j_iret C Q dX12_partsOf_30 hE
set_option maxRecDepth 100000 in
theorem p_X12_partsOf_e {X : jX} {D : va_G} {ad : Nat → Nat} {cy : Nat → ClassId} (C : jC X (jMain D ad cy) RX12 cX12_partsOf (some .int) 3 0 0) {z : Int32 × jS} (Q : jRet X (jMain D ad cy) (some (.int z.1), z.2))  (x0 : Int32) (S : jS) (hE : f_X12_partsOf_e   x0 S = some z) : jJ X (jMain D ad cy) 0 [(0, .int x0)] [] S := by
  unfold f_X12_partsOf_e at hE
  refine j_iconst (v := 0) C dX12_partsOf_0 jc_ic_0 ?_
  refine j_istore_n (i := 1) (lv' := [(1, .int 0), (0, .int x0)]) C dX12_partsOf_1 rfl (by decide) rfl ?_
  refine j_iconst (v := 1) C dX12_partsOf_2 jc_ic_1 ?_
  refine j_istore_n (i := 2) (lv' := [(2, .int 1), (1, .int 0), (0, .int x0)]) C dX12_partsOf_3 rfl (by decide) rfl ?_
  refine j_sub [2, 1, 0] rfl ?_
  exact q_X12_partsOf_4 C Q (p_X12_partsOf_29 C Q ) x0 0 1 S hE
theorem c_X12_partsOf {l : Launch} {D : va_G} {ad : Nat → Nat} {cy : Nat → ClassId} (hO : jOk (jMain D ad cy)) (x0 : Int32) (S : jS) {z : Int32 × jS} (hz : f_X12_partsOf x0 S = some z) : Met l yX12_partsOf (.code yX12_partsOf cX12_partsOf 3 (some .int) :: jT) { frames := 0, cells := 0, slots := 0, locals := 0 } (va_Pc [.int x0] (jInv (jMain D ad cy) S)) (jQ (jMain D ad cy) (some (.int z.1), z.2)) 0 0 (yA (jMain D ad cy)) :=
  jMet hO (by decide +kernel) rfl (Nat.le_of_ble_eq_true rfl) (fun X _ C Q => p_X12_partsOf_e C Q x0 S hz)
theorem k_X12_177_X12_partsOf {X : jX} {D : va_G} {ad : Nat → Nat} {cy : Nat → ClassId} {cc : ByteArray} {ret : Option FieldType} {nL fr lo pc : Nat} {lv : List (Nat × Value)} {st : List Value} {S : jS} {β : Type} {z : β} (C : jC X (jMain D ad cy) RX12 cc ret nL fr lo) {a0 : Int32} {E : Int32 → jS → Option β} (d : decode cc pc = .ok (.invokestatic 177, 3)) (hE : jcl (f_X12_partsOf a0 S) E = some z) (hfr : 1 ≤ fr) (hlo : 22 ≤ lo) (hst : (st.map fun v => v.category).sum ≤ 8) (K : ∀ (v : Int32) (S1 : jS), E v S1 = some z → jJ X (jMain D ad cy) (pc + 3) lv (.int v :: st) S1) : jJ X (jMain D ad cy) pc lv (.int a0 :: st) S := by
  obtain ⟨v, h1, h2⟩ := jcl_some hE
  exact j_callS (n := 1) (As := [.int a0]) C (c_X12_partsOf C.2.2.2.2.2.2.1 a0 S h1) tw_1129 tw_1130 tw_81 tw_1131 (by decide +kernel) rfl hfr hlo hst rfl d (K _ _ h2)
