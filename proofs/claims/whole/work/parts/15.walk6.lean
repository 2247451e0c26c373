set_option maxRecDepth 100000 in
theorem p_X11_note_21 {X : jX} {D : va_G} {ad : Nat → Nat} {cy : Nat → ClassId} (C : jC X (jMain D ad cy) RX11 cX11_note (some .int) 4 2 48) {z : Int32 × jS} (Q : jRet X (jMain D ad cy) (some (.int z.1), z.2))   (S : jS) (hE : f_X11_note_21    S = some z) : jJ X (jMain D ad cy) 21 [(0, .ref (ad 0))] [] S := by
  unfold f_X11_note_21 at hE
  refine j_aload_n C dX11_note_21 0 rfl ?_
  refine k_X11_74_X11_refuseBad C dX11_note_22 hE (Nat.le_of_ble_eq_true rfl) (Nat.le_of_ble_eq_true rfl) (Nat.le_of_ble_eq_true rfl) (fun v2 S1 hE => ?_)
  exact j_iret C Q dX11_note_25 hE
set_option maxRecDepth 100000 in
theorem p_X11_note_e {X : jX} {D : va_G} {ad : Nat → Nat} {cy : Nat → ClassId} (C : jC X (jMain D ad cy) RX11 cX11_note (some .int) 4 2 48) {z : Int32 × jS} (Q : jRet X (jMain D ad cy) (some (.int z.1), z.2))  (x1 : Int32) (x2 : Int32) (x3 : Int32) (S : jS) (hE : f_X11_note_e   x1 x2 x3 S = some z) : jJ X (jMain D ad cy) 0 [(0, .ref (ad 0)), (1, .int x1), (2, .int x2), (3, .int x3)] [] S := by
  unfold f_X11_note_e at hE
  refine j_iload_n C dX11_note_0 1 rfl ?_
  refine k_X11_153_X11_isNumber C dX11_note_1 hE (Nat.le_of_ble_eq_true rfl) (Nat.le_of_ble_eq_true rfl) (Nat.le_of_ble_eq_true rfl) (fun v2 S1 hE => ?_)
  refine j_if_eq (tgt := 21) C dX11_note_4 rfl hE (fun hE => ?_) (fun hE => ?_)
  · refine j_sub [0] rfl ?_
    exact p_X11_note_21 C Q   S1 hE
  · refine j_iload_n C dX11_note_7 2 rfl ?_
    refine k_X11_153_X11_isNumber C dX11_note_8 hE (Nat.le_of_ble_eq_true rfl) (Nat.le_of_ble_eq_true rfl) (Nat.le_of_ble_eq_true rfl) (fun v4 S3 hE => ?_)
    refine j_if_eq (tgt := 21) C dX11_note_11 rfl hE (fun hE => ?_) (fun hE => ?_)
    · refine j_sub [0] rfl ?_
      exact p_X11_note_21 C Q   S3 hE
    · refine j_iload_n C dX11_note_14 3 rfl ?_
      refine k_X11_160_X11_isBit C dX11_note_15 hE (Nat.le_of_ble_eq_true rfl) (Nat.le_of_ble_eq_true rfl) (Nat.le_of_ble_eq_true rfl) (fun v6 S5 hE => ?_)
      refine j_if_ne (tgt := 26) C dX11_note_18 rfl hE (fun hE => ?_) (fun hE => ?_)
      · refine j_aload_n C dX11_note_26 0 rfl ?_
        refine g_X11_44_0 C dX11_note_27 ?_
        refine g_X11_234_21 C dX11_note_30 ?_
        refine j_bipush (v := 8) C dX11_note_33 jc_bp_8 ?_
        refine j_icmp_lt (tgt := 43) C dX11_note_35 rfl hE (fun hE => ?_) (fun hE => ?_)
        · refine j_aload_n C dX11_note_43 0 rfl ?_
          refine g_X11_44_0 C dX11_note_44 ?_
          refine j_iload_n C dX11_note_47 1 rfl ?_
          refine j_iload_n C dX11_note_48 2 rfl ?_
          refine j_iload_n C dX11_note_49 3 rfl ?_
          refine k_X11_237_X10_addNote C dX11_note_50 hE (Nat.le_of_ble_eq_true rfl) (Nat.le_of_ble_eq_true rfl) (Nat.le_of_ble_eq_true rfl) (fun S7 hE => ?_)
          refine j_aload_n C dX11_note_53 0 rfl ?_
          refine g_X11_44_0 C dX11_note_54 ?_
          refine g_X11_234_21 C dX11_note_57 ?_
          exact j_iret C Q dX11_note_60 hE
        · refine j_aload_n C dX11_note_38 0 rfl ?_
          refine k_X11_109_X11_refuseFull C dX11_note_39 hE (Nat.le_of_ble_eq_true rfl) (Nat.le_of_ble_eq_true rfl) (Nat.le_of_ble_eq_true rfl) (fun v9 S8 hE => ?_)
          exact j_iret C Q dX11_note_42 hE
      · refine j_sub [0] rfl ?_
        exact p_X11_note_21 C Q   S5 hE
theorem c_X11_note {l : Launch} {D : va_G} {ad : Nat → Nat} {cy : Nat → ClassId} (hO : jOk (jMain D ad cy)) (x1 : Int32) (x2 : Int32) (x3 : Int32) (S : jS) {z : Int32 × jS} (hz : f_X11_note x1 x2 x3 S = some z) : Met l yX11_note (.code yX11_note cX11_note 4 (some .int) :: jT) { frames := 2, cells := 0, slots := 0, locals := 48 } (va_Pc [.ref (ad 0), .int x1, .int x2, .int x3] (jInv (jMain D ad cy) S)) (jQ (jMain D ad cy) (some (.int z.1), z.2)) 0 0 (yA (jMain D ad cy)) :=
  jMet hO (by decide +kernel) rfl (Nat.le_of_ble_eq_true rfl) (fun X _ C Q => p_X11_note_e C Q x1 x2 x3 S hz)
set_option maxRecDepth 100000 in
theorem p_X12_isLawSo_81 {X : jX} {D : va_G} {ad : Nat → Nat} {cy : Nat → ClassId} (C : jC X (jMain D ad cy) RX12 cX12_isLawSo (some .boolean) 5 2 48) {z : Int32 × jS} (Q : jRet X (jMain D ad cy) (some (.int z.1), z.2)) {g : Int32 → Int32 → Int32 → jS → Option (Int32 × jS)} (hg : ∀ (x1 : Int32) (x2 : Int32) (x3 : Int32) (S : jS), g x1 x2 x3 S = some z → jJ X (jMain D ad cy) 4 [(0, .ref (ad 41)), (1, .int x1), (2, .int x2), (3, .int x3)] [] S) {k88 : Int32 → jS → Option (Int32 × jS)} (hk88 : ∀ (x2 : Int32) (S : jS), k88 x2 S = some z → jJ X (jMain D ad cy) 88 [(2, .int x2)] [] S) (a0 : Int32) (x1 : Int32) (x3 : Int32) (S : jS) (hE : f_X12_isLawSo_81  g k88 a0 x1 x3 S = some z) : jJ X (jMain D ad cy) 81 [(0, .ref (ad 41)), (1, .int x1), (3, .int x3)] [.int a0] S := by
  unfold f_X12_isLawSo_81 at hE
  refine j_istore_n (i := 2) (lv' := [(2, .int a0), (0, .ref (ad 41)), (1, .int x1), (3, .int x3)]) C dX12_isLawSo_81 rfl (by decide) rfl ?_
  refine j_iinc (v := (x3 + 1)) (lv' := [(3, .int (x3 + 1)), (2, .int a0), (0, .ref (ad 41)), (1, .int x1)]) C dX12_isLawSo_82 3 rfl (congrArg (fun w => x3 + w) jc_ic_1) (by decide) rfl ?_
  refine j_goto (tgt := 4) C dX12_isLawSo_85 rfl ?_
  refine j_sub [2, 3, 1, 0] rfl ?_
  exact hg x1 a0 (x3 + 1) S hE
set_option maxRecDepth 100000 in
theorem p_X12_isLawSo_80 {X : jX} {D : va_G} {ad : Nat → Nat} {cy : Nat → ClassId} (C : jC X (jMain D ad cy) RX12 cX12_isLawSo (some .boolean) 5 2 48) {z : Int32 × jS} (Q : jRet X (jMain D ad cy) (some (.int z.1), z.2)) {g : Int32 → Int32 → Int32 → jS → Option (Int32 × jS)} (hg : ∀ (x1 : Int32) (x2 : Int32) (x3 : Int32) (S : jS), g x1 x2 x3 S = some z → jJ X (jMain D ad cy) 4 [(0, .ref (ad 41)), (1, .int x1), (2, .int x2), (3, .int x3)] [] S) {k88 : Int32 → jS → Option (Int32 × jS)} (hk88 : ∀ (x2 : Int32) (S : jS), k88 x2 S = some z → jJ X (jMain D ad cy) 88 [(2, .int x2)] [] S) (x1 : Int32) (x3 : Int32) (S : jS) (hE : f_X12_isLawSo_80  g k88 x1 x3 S = some z) : jJ X (jMain D ad cy) 80 [(0, .ref (ad 41)), (1, .int x1), (3, .int x3)] [] S := by
  unfold f_X12_isLawSo_80 at hE
  refine j_iconst (v := 0) C dX12_isLawSo_80 jc_ic_0 ?_
  exact p_X12_isLawSo_81 C Q hg hk88 0 x1 x3 S hE
set_option maxRecDepth 100000 in
theorem p_X12_isLawSo_73 {X : jX} {D : va_G} {ad : Nat → Nat} {cy : Nat → ClassId} (C : jC X (jMain D ad cy) RX12 cX12_isLawSo (some .boolean) 5 2 48) {z : Int32 × jS} (Q : jRet X (jMain D ad cy) (some (.int z.1), z.2)) {g : Int32 → Int32 → Int32 → jS → Option (Int32 × jS)} (hg : ∀ (x1 : Int32) (x2 : Int32) (x3 : Int32) (S : jS), g x1 x2 x3 S = some z → jJ X (jMain D ad cy) 4 [(0, .ref (ad 41)), (1, .int x1), (2, .int x2), (3, .int x3)] [] S) {k88 : Int32 → jS → Option (Int32 × jS)} (hk88 : ∀ (x2 : Int32) (S : jS), k88 x2 S = some z → jJ X (jMain D ad cy) 88 [(2, .int x2)] [] S) (a0 : Int32) (a1 : Int32) (x1 : Int32) (x3 : Int32) (S : jS) (hE : f_X12_isLawSo_73  g k88 a0 a1 x1 x3 S = some z) : jJ X (jMain D ad cy) 73 [(0, .ref (ad 41)), (1, .int x1), (3, .int x3)] [.int a0, .int a1] S := by
  unfold f_X12_isLawSo_73 at hE
  refine j_icmp_ne (tgt := 80) C dX12_isLawSo_73 rfl hE (fun hE => ?_) (fun hE => ?_)
  · exact p_X12_isLawSo_80 C Q hg hk88 x1 x3 S hE
  · refine j_iconst (v := 1) C dX12_isLawSo_76 jc_ic_1 ?_
    refine j_goto (tgt := 81) C dX12_isLawSo_77 rfl ?_
    exact p_X12_isLawSo_81 C Q hg hk88 1 x1 x3 S hE
set_option maxRecDepth 100000 in
theorem p_X12_isLawSo_4 {X : jX} {D : va_G} {ad : Nat → Nat} {cy : Nat → ClassId} (C : jC X (jMain D ad cy) RX12 cX12_isLawSo (some .boolean) 5 2 48) {z : Int32 × jS} (Q : jRet X (jMain D ad cy) (some (.int z.1), z.2)) {g : Int32 → Int32 → Int32 → jS → Option (Int32 × jS)} (hg : ∀ (x1 : Int32) (x2 : Int32) (x3 : Int32) (S : jS), g x1 x2 x3 S = some z → jJ X (jMain D ad cy) 4 [(0, .ref (ad 41)), (1, .int x1), (2, .int x2), (3, .int x3)] [] S) {k88 : Int32 → jS → Option (Int32 × jS)} (hk88 : ∀ (x2 : Int32) (S : jS), k88 x2 S = some z → jJ X (jMain D ad cy) 88 [(2, .int x2)] [] S) (x1 : Int32) (x2 : Int32) (x3 : Int32) (S : jS) (hE : f_X12_isLawSo_4  g k88 x1 x2 x3 S = some z) : jJ X (jMain D ad cy) 4 [(0, .ref (ad 41)), (1, .int x1), (2, .int x2), (3, .int x3)] [] S := by
  unfold f_X12_isLawSo_4 at hE
  refine j_iload_n C dX12_isLawSo_4 3 rfl ?_
  refine j_aload_n C dX12_isLawSo_5 0 rfl ?_
  refine g_X12_7_41 C dX12_isLawSo_6 ?_
  refine j_bipush (v := 11) C dX12_isLawSo_9 jc_bp_11 ?_
  refine l_42 C dX12_isLawSo_11 hE (fun v1 hE => ?_)
  refine j_icmp_ge (tgt := 88) C dX12_isLawSo_12 rfl hE (fun hE => ?_) (fun hE => ?_)
  · refine j_sub [2] rfl ?_
    exact hk88 x2 S hE
  · refine j_bipush (v := 45) C dX12_isLawSo_15 jc_bp_45 ?_
    refine j_iconst (v := 3) C dX12_isLawSo_17 jc_ic_3 ?_
    refine j_iload_n C dX12_isLawSo_18 3 rfl ?_
    refine j_imul C dX12_isLawSo_19 ?_
    refine j_iadd C dX12_isLawSo_20 ?_
    refine j_istore (lv' := [(4, .int (45 + (3 * x3))), (0, .ref (ad 41)), (1, .int x1), (2, .int x2), (3, .int x3)]) C dX12_isLawSo_21 (by decide) rfl ?_
    refine j_iload_n C dX12_isLawSo_23 3 rfl ?_
    refine j_if_eq (tgt := 80) C dX12_isLawSo_24 rfl hE (fun hE => ?_) (fun hE => ?_)
    · refine j_sub [1, 2, 4] rfl ?_
      exact p_X12_isLawSo_80 C Q hg hk88 x1 x3 S hE
    · refine j_aload_n C dX12_isLawSo_27 1 rfl ?_
      refine j_iload_n C dX12_isLawSo_28 2 rfl ?_
      refine j_bipush (v := 10) C dX12_isLawSo_29 jc_bp_10 ?_
      refine j_idiv C dX12_isLawSo_31 hE (fun v2 hE => ?_)
      refine j_iload_n C dX12_isLawSo_32 2 rfl ?_
      refine j_bipush (v := 10) C dX12_isLawSo_33 jc_bp_10 ?_
      refine j_irem C dX12_isLawSo_35 hE (fun v3 hE => ?_)
      refine j_aload_n C dX12_isLawSo_36 1 rfl ?_
      refine g_X12_7_41 C dX12_isLawSo_37 ?_
      refine j_iload C dX12_isLawSo_40 0 rfl ?_
      refine l_42 C dX12_isLawSo_42 hE (fun v4 hE => ?_)
      refine j_aload_n C dX12_isLawSo_43 1 rfl ?_
      refine g_X12_7_41 C dX12_isLawSo_44 ?_
      refine j_iload C dX12_isLawSo_47 0 rfl ?_
      refine j_iconst (v := 1) C dX12_isLawSo_49 jc_ic_1 ?_
      refine j_iadd C dX12_isLawSo_50 ?_
      refine l_42 C dX12_isLawSo_51 hE (fun v5 hE => ?_)
      refine k_X12_80_X12_mayBy C dX12_isLawSo_52 hE (Nat.le_of_ble_eq_true rfl) (Nat.le_of_ble_eq_true rfl) (Nat.le_of_ble_eq_true rfl) (fun v7 S6 hE => ?_)
      refine j_aload_n C dX12_isLawSo_55 1 rfl ?_
      refine g_X12_7_41 C dX12_isLawSo_56 ?_
      refine j_iload C dX12_isLawSo_59 0 rfl ?_
      refine j_iconst (v := 2) C dX12_isLawSo_61 jc_ic_2 ?_
      refine j_iadd C dX12_isLawSo_62 ?_
      refine l_42 C dX12_isLawSo_63 hE (fun v8 hE => ?_)
      refine j_iconst (v := 1) C dX12_isLawSo_64 jc_ic_1 ?_
      refine j_icmp_ne (tgt := 72) C dX12_isLawSo_65 rfl hE (fun hE => ?_) (fun hE => ?_)
      · refine j_iconst (v := 0) C dX12_isLawSo_72 jc_ic_0 ?_
        refine j_sub [1, 2, 4] rfl ?_
        exact p_X12_isLawSo_73 C Q hg hk88 0 v7 x1 x3 S6 hE
      · refine j_iconst (v := 1) C dX12_isLawSo_68 jc_ic_1 ?_
        refine j_goto (tgt := 73) C dX12_isLawSo_69 rfl ?_
        refine j_sub [1, 2, 4] rfl ?_
        exact p_X12_isLawSo_73 C Q hg hk88 1 v7 x1 x3 S6 hE
theorem q_X12_isLawSo_4 {X : jX} {D : va_G} {ad : Nat → Nat} {cy : Nat → ClassId} (C : jC X (jMain D ad cy) RX12 cX12_isLawSo (some .boolean) 5 2 48) {z : Int32 × jS} (Q : jRet X (jMain D ad cy) (some (.int z.1), z.2)) {k88 : Int32 → jS → Option (Int32 × jS)} (hk88 : ∀ (x2 : Int32) (S : jS), k88 x2 S = some z → jJ X (jMain D ad cy) 88 [(2, .int x2)] [] S) (x1 : Int32) (x2 : Int32) (x3 : Int32) (S : jS) (hE : lp_X12_isLawSo_4  k88 x1 x2 x3 S = some z) : jJ X (jMain D ad cy) 4 [(0, .ref (ad 41)), (1, .int x1), (2, .int x2), (3, .int x3)] [] S :=
  jloop_P (α := Int32 × Int32 × Int32 × jS) (B := (fun g q => f_X12_isLawSo_4  (fun x1 x2 x3 S => g (x1, x2, x3, S)) k88 q.1 q.2.1 q.2.2.1 q.2.2.2)) (P := fun q => jJ X (jMain D ad cy) 4 [(0, .ref (ad 41)), (1, .int q.1), (2, .int q.2.1), (3, .int q.2.2.1)] [] q.2.2.2) (fun g q hg h => p_X12_isLawSo_4 C Q (g := fun x1 x2 x3 S => g (x1, x2, x3, S)) (fun x1 x2 x3 S h => hg (x1, x2, x3, S) h) hk88 q.1 q.2.1 q.2.2.1 q.2.2.2 h) jN (x1, x2, x3, S) hE
set_option maxRecDepth 100000 in
theorem p_X12_isLawSo_88 {X : jX} {D : va_G} {ad : Nat → Nat} {cy : Nat → ClassId} (C : jC X (jMain D ad cy) RX12 cX12_isLawSo (some .boolean) 5 2 48) {z : Int32 × jS} (Q : jRet X (jMain D ad cy) (some (.int z.1), z.2))  (x2 : Int32) (S : jS) (hE : f_X12_isLawSo_88   x2 S = some z) : jJ X (jMain D ad cy) 88 [(2, .int x2)] [] S := by
  unfold f_X12_isLawSo_88 at hE
  refine j_iload_n C dX12_isLawSo_88 0 rfl ?_
  exact j_zret C Q dX12_isLawSo_89 hE
set_option maxRecDepth 100000 in
theorem p_X12_isLawSo_e {X : jX} {D : va_G} {ad : Nat → Nat} {cy : Nat → ClassId} (C : jC X (jMain D ad cy) RX12 cX12_isLawSo (some .boolean) 5 2 48) {z : Int32 × jS} (Q : jRet X (jMain D ad cy) (some (.int z.1), z.2))  (x1 : Int32) (S : jS) (hE : f_X12_isLawSo_e   x1 S = some z) : jJ X (jMain D ad cy) 0 [(0, .ref (ad 41)), (1, .int x1)] [] S := by
  unfold f_X12_isLawSo_e at hE
  refine j_iconst (v := 1) C dX12_isLawSo_0 jc_ic_1 ?_
  refine j_istore_n (i := 2) (lv' := [(2, .int 1), (0, .ref (ad 41)), (1, .int x1)]) C dX12_isLawSo_1 rfl (by decide) rfl ?_
  refine j_iconst (v := 0) C dX12_isLawSo_2 jc_ic_0 ?_
  refine j_istore_n (i := 3) (lv' := [(3, .int 0), (2, .int 1), (0, .ref (ad 41)), (1, .int x1)]) C dX12_isLawSo_3 rfl (by decide) rfl ?_
  refine j_sub [2, 3, 1, 0] rfl ?_
  exact q_X12_isLawSo_4 C Q (p_X12_isLawSo_88 C Q ) x1 1 0 S hE
theorem c_X12_isLawSo {l : Launch} {D : va_G} {ad : Nat → Nat} {cy : Nat → ClassId} (hO : jOk (jMain D ad cy)) (x1 : Int32) (S : jS) {z : Int32 × jS} (hz : f_X12_isLawSo x1 S = some z) : Met l yX12_isLawSo (.code yX12_isLawSo cX12_isLawSo 5 (some .boolean) :: jT) { frames := 2, cells := 0, slots := 0, locals := 48 } (va_Pc [.ref (ad 41), .int x1] (jInv (jMain D ad cy) S)) (jQ (jMain D ad cy) (some (.int z.1), z.2)) 0 0 (yA (jMain D ad cy)) :=
  jMet hO (by decide +kernel) rfl (Nat.le_of_ble_eq_true rfl) (fun X _ C Q => p_X12_isLawSo_e C Q x1 S hz)
theorem k_X12_204_X12_isLawSo {X : jX} {D : va_G} {ad : Nat → Nat} {cy : Nat → ClassId} {cc : ByteArray} {ret : Option FieldType} {nL fr lo pc : Nat} {lv : List (Nat × Value)} {st : List Value} {S : jS} {β : Type} {z : β} (C : jC X (jMain D ad cy) RX12 cc ret nL fr lo) {a0 : Int32} {E : Int32 → jS → Option β} (d : decode cc pc = .ok (.invokevirtual 204, 3)) (hE : jcl (f_X12_isLawSo a0 S) E = some z) (hfr : 3 ≤ fr) (hlo : 72 ≤ lo) (hst : (st.map fun v => v.category).sum ≤ 8) (K : ∀ (v : Int32) (S1 : jS), E v S1 = some z → jJ X (jMain D ad cy) (pc + 3) lv (.int v :: st) S1) : jJ X (jMain D ad cy) pc lv (.int a0 :: .ref (ad 41) :: st) S := by
  obtain ⟨v, h1, h2⟩ := jcl_some hE
  exact j_callV (k := 41) (ci := 12) (T := TX12) (N := 25) (n := 1) (As := [.int a0]) C (c_X12_isLawSo C.2.2.2.2.2.2.1 a0 S h1) tw_1182 tw_1184 tw_59 tw_81 tw_1185 (by decide +kernel) rfl (by decide : 41 < 56) rfl rfl hfr hlo hst rfl d (K _ _ h2)
set_option maxRecDepth 100000 in
theorem p_X12_laws_66 {X : jX} {D : va_G} {ad : Nat → Nat} {cy : Nat → ClassId} (C : jC X (jMain D ad cy) RX12 cX12_laws (some .int) 6 3 72) {z : Int32 × jS} (Q : jRet X (jMain D ad cy) (some (.int z.1), z.2)) {g : Int32 → Int32 → Int32 → Int32 → jS → Option (Int32 × jS)} (hg : ∀ (x1 : Int32) (x2 : Int32) (x3 : Int32) (x4 : Int32) (S : jS), g x1 x2 x3 x4 S = some z → jJ X (jMain D ad cy) 24 [(0, .ref (ad 41)), (1, .int x1), (2, .int x2), (3, .int x3), (4, .int x4)] [] S) {k74 : Int32 → Int32 → Int32 → jS → Option (Int32 × jS)} (hk74 : ∀ (x1 : Int32) (x2 : Int32) (x3 : Int32) (S : jS), k74 x1 x2 x3 S = some z → jJ X (jMain D ad cy) 74 [(1, .int x1), (2, .int x2), (3, .int x3)] [] S) (a0 : Int32) (a1 : Int32) (x1 : Int32) (x3 : Int32) (x4 : Int32) (S : jS) (hE : f_X12_laws_66  g k74 a0 a1 x1 x3 x4 S = some z) : jJ X (jMain D ad cy) 66 [(0, .ref (ad 41)), (1, .int x1), (3, .int x3), (4, .int x4)] [.int a0, .int a1] S := by
  unfold f_X12_laws_66 at hE
  refine j_iadd C dX12_laws_66 ?_
  refine j_istore_n (i := 2) (lv' := [(2, .int (a1 + a0)), (0, .ref (ad 41)), (1, .int x1), (3, .int x3), (4, .int x4)]) C dX12_laws_67 rfl (by decide) rfl ?_
  refine j_iinc (v := (x4 + 1)) (lv' := [(4, .int (x4 + 1)), (2, .int (a1 + a0)), (0, .ref (ad 41)), (1, .int x1), (3, .int x3)]) C dX12_laws_68 4 rfl (congrArg (fun w => x4 + w) jc_ic_1) (by decide) rfl ?_
  refine j_goto (tgt := 24) C dX12_laws_71 rfl ?_
  refine j_sub [2, 3, 1, 4, 0] rfl ?_
  exact hg x1 (a1 + a0) x3 (x4 + 1) S hE
set_option maxRecDepth 100000 in
theorem p_X12_laws_54 {X : jX} {D : va_G} {ad : Nat → Nat} {cy : Nat → ClassId} (C : jC X (jMain D ad cy) RX12 cX12_laws (some .int) 6 3 72) {z : Int32 × jS} (Q : jRet X (jMain D ad cy) (some (.int z.1), z.2)) {g : Int32 → Int32 → Int32 → Int32 → jS → Option (Int32 × jS)} (hg : ∀ (x1 : Int32) (x2 : Int32) (x3 : Int32) (x4 : Int32) (S : jS), g x1 x2 x3 x4 S = some z → jJ X (jMain D ad cy) 24 [(0, .ref (ad 41)), (1, .int x1), (2, .int x2), (3, .int x3), (4, .int x4)] [] S) {k74 : Int32 → Int32 → Int32 → jS → Option (Int32 × jS)} (hk74 : ∀ (x1 : Int32) (x2 : Int32) (x3 : Int32) (S : jS), k74 x1 x2 x3 S = some z → jJ X (jMain D ad cy) 74 [(1, .int x1), (2, .int x2), (3, .int x3)] [] S) (a0 : Int32) (x1 : Int32) (x2 : Int32) (x4 : Int32) (x5 : Int32) (S : jS) (hE : f_X12_laws_54  g k74 a0 x1 x2 x4 x5 S = some z) : jJ X (jMain D ad cy) 54 [(0, .ref (ad 41)), (1, .int x1), (2, .int x2), (4, .int x4), (5, .int x5)] [.int a0] S := by
  unfold f_X12_laws_54 at hE
  refine j_istore_n (i := 3) (lv' := [(3, .int a0), (0, .ref (ad 41)), (1, .int x1), (2, .int x2), (4, .int x4), (5, .int x5)]) C dX12_laws_54 rfl (by decide) rfl ?_
  refine j_iload_n C dX12_laws_55 3 rfl ?_
  refine j_iload C dX12_laws_56 5 rfl ?_
  refine j_if_eq (tgt := 65) C dX12_laws_58 rfl hE (fun hE => ?_) (fun hE => ?_)
  · refine j_iconst (v := 0) C dX12_laws_65 jc_ic_0 ?_
    refine j_sub [1, 2, 0, 4] rfl ?_
    exact p_X12_laws_66 C Q hg hk74 0 x2 x1 a0 x4 S hE
  · refine j_iconst (v := 1) C dX12_laws_61 jc_ic_1 ?_
    refine j_goto (tgt := 66) C dX12_laws_62 rfl ?_
    refine j_sub [1, 2, 0, 4] rfl ?_
    exact p_X12_laws_66 C Q hg hk74 1 x2 x1 a0 x4 S hE
set_option maxRecDepth 100000 in
theorem p_X12_laws_53 {X : jX} {D : va_G} {ad : Nat → Nat} {cy : Nat → ClassId} (C : jC X (jMain D ad cy) RX12 cX12_laws (some .int) 6 3 72) {z : Int32 × jS} (Q : jRet X (jMain D ad cy) (some (.int z.1), z.2)) {g : Int32 → Int32 → Int32 → Int32 → jS → Option (Int32 × jS)} (hg : ∀ (x1 : Int32) (x2 : Int32) (x3 : Int32) (x4 : Int32) (S : jS), g x1 x2 x3 x4 S = some z → jJ X (jMain D ad cy) 24 [(0, .ref (ad 41)), (1, .int x1), (2, .int x2), (3, .int x3), (4, .int x4)] [] S) {k74 : Int32 → Int32 → Int32 → jS → Option (Int32 × jS)} (hk74 : ∀ (x1 : Int32) (x2 : Int32) (x3 : Int32) (S : jS), k74 x1 x2 x3 S = some z → jJ X (jMain D ad cy) 74 [(1, .int x1), (2, .int x2), (3, .int x3)] [] S) (x1 : Int32) (x2 : Int32) (x3 : Int32) (x4 : Int32) (x5 : Int32) (S : jS) (hE : f_X12_laws_53  g k74 x1 x2 x3 x4 x5 S = some z) : jJ X (jMain D ad cy) 53 [(0, .ref (ad 41)), (1, .int x1), (2, .int x2), (3, .int x3), (4, .int x4), (5, .int x5)] [] S := by
  unfold f_X12_laws_53 at hE
  refine j_iload_n C dX12_laws_53 3 rfl ?_
  refine j_sub [0, 1, 2, 4, 5] rfl ?_
  exact p_X12_laws_54 C Q hg hk74 x3 x1 x2 x4 x5 S hE
set_option maxRecDepth 100000 in
theorem p_X12_laws_24 {X : jX} {D : va_G} {ad : Nat → Nat} {cy : Nat → ClassId} (C : jC X (jMain D ad cy) RX12 cX12_laws (some .int) 6 3 72) {z : Int32 × jS} (Q : jRet X (jMain D ad cy) (some (.int z.1), z.2)) {g : Int32 → Int32 → Int32 → Int32 → jS → Option (Int32 × jS)} (hg : ∀ (x1 : Int32) (x2 : Int32) (x3 : Int32) (x4 : Int32) (S : jS), g x1 x2 x3 x4 S = some z → jJ X (jMain D ad cy) 24 [(0, .ref (ad 41)), (1, .int x1), (2, .int x2), (3, .int x3), (4, .int x4)] [] S) {k74 : Int32 → Int32 → Int32 → jS → Option (Int32 × jS)} (hk74 : ∀ (x1 : Int32) (x2 : Int32) (x3 : Int32) (S : jS), k74 x1 x2 x3 S = some z → jJ X (jMain D ad cy) 74 [(1, .int x1), (2, .int x2), (3, .int x3)] [] S) (x1 : Int32) (x2 : Int32) (x3 : Int32) (x4 : Int32) (S : jS) (hE : f_X12_laws_24  g k74 x1 x2 x3 x4 S = some z) : jJ X (jMain D ad cy) 24 [(0, .ref (ad 41)), (1, .int x1), (2, .int x2), (3, .int x3), (4, .int x4)] [] S := by
  unfold f_X12_laws_24 at hE
  refine j_iload C dX12_laws_24 4 rfl ?_
  refine j_bipush (v := 60) C dX12_laws_26 jc_bp_60 ?_
  refine j_icmp_ge (tgt := 74) C dX12_laws_28 rfl hE (fun hE => ?_) (fun hE => ?_)
  · refine j_sub [1, 2, 3] rfl ?_
    exact hk74 x1 x2 x3 S hE
  · refine j_aload_n C dX12_laws_31 0 rfl ?_
    refine j_iload C dX12_laws_32 4 rfl ?_
    refine k_X12_204_X12_isLawSo C dX12_laws_34 hE (Nat.le_of_ble_eq_true rfl) (Nat.le_of_ble_eq_true rfl) (Nat.le_of_ble_eq_true rfl) (fun v2 S1 hE => ?_)
    refine j_istore (lv' := [(5, .int v2), (0, .ref (ad 41)), (1, .int x1), (2, .int x2), (3, .int x3), (4, .int x4)]) C dX12_laws_37 (by decide) rfl ?_
    refine j_iload C dX12_laws_39 0 rfl ?_
    refine j_if_eq (tgt := 53) C dX12_laws_41 rfl hE (fun hE => ?_) (fun hE => ?_)
    · refine j_sub [1, 2, 3, 4, 5, 0] rfl ?_
      exact p_X12_laws_53 C Q hg hk74 x1 x2 x3 x4 v2 S1 hE
    · refine j_iload_n C dX12_laws_44 3 rfl ?_
      refine j_if_ne (tgt := 53) C dX12_laws_45 rfl hE (fun hE => ?_) (fun hE => ?_)
      · refine j_sub [1, 2, 3, 4, 5, 0] rfl ?_
        exact p_X12_laws_53 C Q hg hk74 x1 x2 x3 x4 v2 S1 hE
      · refine j_iload C dX12_laws_48 5 rfl ?_
        refine j_goto (tgt := 54) C dX12_laws_50 rfl ?_
        refine j_sub [1, 2, 3, 5, 0] rfl ?_
        exact p_X12_laws_54 C Q hg hk74 x4 x1 x2 x4 v2 S1 hE
theorem q_X12_laws_24 {X : jX} {D : va_G} {ad : Nat → Nat} {cy : Nat → ClassId} (C : jC X (jMain D ad cy) RX12 cX12_laws (some .int) 6 3 72) {z : Int32 × jS} (Q : jRet X (jMain D ad cy) (some (.int z.1), z.2)) {k74 : Int32 → Int32 → Int32 → jS → Option (Int32 × jS)} (hk74 : ∀ (x1 : Int32) (x2 : Int32) (x3 : Int32) (S : jS), k74 x1 x2 x3 S = some z → jJ X (jMain D ad cy) 74 [(1, .int x1), (2, .int x2), (3, .int x3)] [] S) (x1 : Int32) (x2 : Int32) (x3 : Int32) (x4 : Int32) (S : jS) (hE : lp_X12_laws_24  k74 x1 x2 x3 x4 S = some z) : jJ X (jMain D ad cy) 24 [(0, .ref (ad 41)), (1, .int x1), (2, .int x2), (3, .int x3), (4, .int x4)] [] S :=
  jloop_P (α := Int32 × Int32 × Int32 × Int32 × jS) (B := (fun g q => f_X12_laws_24  (fun x1 x2 x3 x4 S => g (x1, x2, x3, x4, S)) k74 q.1 q.2.1 q.2.2.1 q.2.2.2.1 q.2.2.2.2)) (P := fun q => jJ X (jMain D ad cy) 24 [(0, .ref (ad 41)), (1, .int q.1), (2, .int q.2.1), (3, .int q.2.2.1), (4, .int q.2.2.2.1)] [] q.2.2.2.2) (fun g q hg h => p_X12_laws_24 C Q (g := fun x1 x2 x3 x4 S => g (x1, x2, x3, x4, S)) (fun x1 x2 x3 x4 S h => hg (x1, x2, x3, x4, S) h) hk74 q.1 q.2.1 q.2.2.1 q.2.2.2.1 q.2.2.2.2 h) jN (x1, x2, x3, x4, S) hE
set_option maxRecDepth 100000 in
theorem p_X12_laws_83 {X : jX} {D : va_G} {ad : Nat → Nat} {cy : Nat → ClassId} (C : jC X (jMain D ad cy) RX12 cX12_laws (some .int) 6 3 72) {z : Int32 × jS} (Q : jRet X (jMain D ad cy) (some (.int z.1), z.2))  (a0 : Int32) (S : jS) (hE : f_X12_laws_83   a0 S = some z) : jJ X (jMain D ad cy) 83 [] [.int a0] S := by
  unfold f_X12_laws_83 at hE
  exact j_iret C Q dX12_laws_83 hE
set_option maxRecDepth 100000 in
theorem p_X12_laws_74 {X : jX} {D : va_G} {ad : Nat → Nat} {cy : Nat → ClassId} (C : jC X (jMain D ad cy) RX12 cX12_laws (some .int) 6 3 72) {z : Int32 × jS} (Q : jRet X (jMain D ad cy) (some (.int z.1), z.2))  (x1 : Int32) (x2 : Int32) (x3 : Int32) (S : jS) (hE : f_X12_laws_74   x1 x2 x3 S = some z) : jJ X (jMain D ad cy) 74 [(1, .int x1), (2, .int x2), (3, .int x3)] [] S := by
  unfold f_X12_laws_74 at hE
  refine j_iload_n C dX12_laws_74 0 rfl ?_
  refine j_if_ne (tgt := 82) C dX12_laws_75 rfl hE (fun hE => ?_) (fun hE => ?_)
  · refine j_iload_n C dX12_laws_82 2 rfl ?_
    refine j_sub [] rfl ?_
    exact p_X12_laws_83 C Q  x3 S hE
  · refine j_iload_n C dX12_laws_78 1 rfl ?_
    refine j_goto (tgt := 83) C dX12_laws_79 rfl ?_
    refine j_sub [] rfl ?_
    exact p_X12_laws_83 C Q  x2 S hE
set_option maxRecDepth 100000 in
theorem p_X12_laws_e {X : jX} {D : va_G} {ad : Nat → Nat} {cy : Nat → ClassId} (C : jC X (jMain D ad cy) RX12 cX12_laws (some .int) 6 3 72) {z : Int32 × jS} (Q : jRet X (jMain D ad cy) (some (.int z.1), z.2))  (x1 : Int32) (S : jS) (hE : f_X12_laws_e   x1 S = some z) : jJ X (jMain D ad cy) 0 [(0, .ref (ad 41)), (1, .int x1)] [] S := by
  unfold f_X12_laws_e at hE
  refine j_iload_n C dX12_laws_0 1 rfl ?_
  refine j_i2l C dX12_laws_1 ?_
  refine j_lconst (v := 0) C dX12_laws_2 jc_lc_0 ?_
  refine j_lconst (v := 1) C dX12_laws_3 jc_lc_1 ?_
  refine k_X12_59_X12_in C dX12_laws_4 hE (Nat.le_of_ble_eq_true rfl) (Nat.le_of_ble_eq_true rfl) (Nat.le_of_ble_eq_true rfl) (fun v2 S1 hE => ?_)
  refine j_if_ne (tgt := 17) C dX12_laws_7 rfl hE (fun hE => ?_) (fun hE => ?_)
  · refine j_iconst (v := 0) C dX12_laws_17 jc_ic_0 ?_
    refine j_istore_n (i := 2) (lv' := [(2, .int 0), (0, .ref (ad 41)), (1, .int x1)]) C dX12_laws_18 rfl (by decide) rfl ?_
    refine j_iconst (v := (-1)) C dX12_laws_19 jc_ic_m1 ?_
    refine j_istore_n (i := 3) (lv' := [(3, .int (-1)), (2, .int 0), (0, .ref (ad 41)), (1, .int x1)]) C dX12_laws_20 rfl (by decide) rfl ?_
    refine j_iconst (v := 0) C dX12_laws_21 jc_ic_0 ?_
    refine j_istore (lv' := [(4, .int 0), (3, .int (-1)), (2, .int 0), (0, .ref (ad 41)), (1, .int x1)]) C dX12_laws_22 (by decide) rfl ?_
    refine j_sub [3, 4, 2, 1, 0] rfl ?_
    exact q_X12_laws_24 C Q (p_X12_laws_74 C Q ) x1 0 (-1) 0 S1 hE
  · refine j_aload_n C dX12_laws_10 0 rfl ?_
    refine j_bipush (v := (-10)) C dX12_laws_11 jc_bp_m10 ?_
    refine k_X12_87_X12_bad C dX12_laws_13 hE (Nat.le_of_ble_eq_true rfl) (Nat.le_of_ble_eq_true rfl) (Nat.le_of_ble_eq_true rfl) (fun v4 S3 hE => ?_)
    exact j_iret C Q dX12_laws_16 hE
theorem c_X12_laws {l : Launch} {D : va_G} {ad : Nat → Nat} {cy : Nat → ClassId} (hO : jOk (jMain D ad cy)) (x1 : Int32) (S : jS) {z : Int32 × jS} (hz : f_X12_laws x1 S = some z) : Met l yX12_laws (.code yX12_laws cX12_laws 6 (some .int) :: jT) { frames := 3, cells := 0, slots := 0, locals := 72 } (va_Pc [.ref (ad 41), .int x1] (jInv (jMain D ad cy) S)) (jQ (jMain D ad cy) (some (.int z.1), z.2)) 0 0 (yA (jMain D ad cy)) :=
  jMet hO (by decide +kernel) rfl (Nat.le_of_ble_eq_true rfl) (fun X _ C Q => p_X12_laws_e C Q x1 S hz)
set_option maxRecDepth 100000 in
theorem p_X11_agreesWithNotes_2 {X : jX} {D : va_G} {ad : Nat → Nat} {cy : Nat → ClassId} (C : jC X (jMain D ad cy) RX11 cX11_agreesWithNotes (some .boolean) 4 4 95) {z : Int32 × jS} (Q : jRet X (jMain D ad cy) (some (.int z.1), z.2)) {g : Int32 → Int32 → jS → Option (Int32 × jS)} (hg : ∀ (x1 : Int32) (x2 : Int32) (S : jS), g x1 x2 S = some z → jJ X (jMain D ad cy) 2 [(0, .ref (ad 0)), (1, .int x1), (2, .int x2)] [] S) {k72 : jS → Option (Int32 × jS)} (hk72 : ∀  (S : jS), k72  S = some z → jJ X (jMain D ad cy) 72 [] [] S) {k80 : jS → Option (Int32 × jS)} (hk80 : ∀  (S : jS), k80  S = some z → jJ X (jMain D ad cy) 80 [] [] S) (x1 : Int32) (x2 : Int32) (S : jS) (hE : f_X11_agreesWithNotes_2  g k72 k80 x1 x2 S = some z) : jJ X (jMain D ad cy) 2 [(0, .ref (ad 0)), (1, .int x1), (2, .int x2)] [] S := by
  unfold f_X11_agreesWithNotes_2 at hE
  refine j_iload_n C dX11_agreesWithNotes_2 2 rfl ?_
  refine j_aload_n C dX11_agreesWithNotes_3 0 rfl ?_
  refine g_X11_44_0 C dX11_agreesWithNotes_4 ?_
  refine g_X11_234_21 C dX11_agreesWithNotes_7 ?_
  refine j_icmp_ge (tgt := 80) C dX11_agreesWithNotes_10 rfl hE (fun hE => ?_) (fun hE => ?_)
  · refine j_sub [] rfl ?_
    exact hk80  S hE
  · refine j_iload_n C dX11_agreesWithNotes_13 2 rfl ?_
    refine j_bipush (v := 8) C dX11_agreesWithNotes_14 jc_bp_8 ?_
    refine j_icmp_ge (tgt := 80) C dX11_agreesWithNotes_16 rfl hE (fun hE => ?_) (fun hE => ?_)
    · refine j_sub [] rfl ?_
      exact hk80  S hE
    · refine j_aload_n C dX11_agreesWithNotes_19 0 rfl ?_
      refine g_X11_21_0 C dX11_agreesWithNotes_20 ?_
      refine j_iload_n C dX11_agreesWithNotes_23 1 rfl ?_
      refine j_aload_n C dX11_agreesWithNotes_24 0 rfl ?_
      refine g_X11_44_0 C dX11_agreesWithNotes_25 ?_
      refine g_X11_296_21 C dX11_agreesWithNotes_28 ?_
      refine j_iconst (v := 3) C dX11_agreesWithNotes_31 jc_ic_3 ?_
      refine j_iload_n C dX11_agreesWithNotes_32 2 rfl ?_
      refine j_imul C dX11_agreesWithNotes_33 ?_
      refine l_24 C dX11_agreesWithNotes_34 hE (fun v1 hE => ?_)
      refine j_aload_n C dX11_agreesWithNotes_35 0 rfl ?_
      refine g_X11_44_0 C dX11_agreesWithNotes_36 ?_
      refine g_X11_296_21 C dX11_agreesWithNotes_39 ?_
      refine j_iconst (v := 3) C dX11_agreesWithNotes_42 jc_ic_3 ?_
      refine j_iload_n C dX11_agreesWithNotes_43 2 rfl ?_
      refine j_imul C dX11_agreesWithNotes_44 ?_
      refine j_iconst (v := 1) C dX11_agreesWithNotes_45 jc_ic_1 ?_
      refine j_iadd C dX11_agreesWithNotes_46 ?_
      refine l_24 C dX11_agreesWithNotes_47 hE (fun v2 hE => ?_)
      refine k_X11_156_X2_allows C dX11_agreesWithNotes_48 hE (Nat.le_of_ble_eq_true rfl) (Nat.le_of_ble_eq_true rfl) (Nat.le_of_ble_eq_true rfl) (fun v4 S3 hE => ?_)
      refine j_istore_n (i := 3) (lv' := [(3, .int v4), (0, .ref (ad 0)), (1, .int x1), (2, .int x2)]) C dX11_agreesWithNotes_51 rfl (by decide) rfl ?_
      refine j_iload_n C dX11_agreesWithNotes_52 0 rfl ?_
      refine k_X11_139_X11_bit C dX11_agreesWithNotes_53 hE (Nat.le_of_ble_eq_true rfl) (Nat.le_of_ble_eq_true rfl) (Nat.le_of_ble_eq_true rfl) (fun v6 S5 hE => ?_)
      refine j_aload_n C dX11_agreesWithNotes_56 1 rfl ?_
      refine g_X11_44_0 C dX11_agreesWithNotes_57 ?_
      refine g_X11_296_21 C dX11_agreesWithNotes_60 ?_
      refine j_iconst (v := 3) C dX11_agreesWithNotes_63 jc_ic_3 ?_
      refine j_iload_n C dX11_agreesWithNotes_64 3 rfl ?_
      refine j_imul C dX11_agreesWithNotes_65 ?_
      refine j_iconst (v := 2) C dX11_agreesWithNotes_66 jc_ic_2 ?_
      refine j_iadd C dX11_agreesWithNotes_67 ?_
      refine l_24 C dX11_agreesWithNotes_68 hE (fun v7 hE => ?_)
      refine j_icmp_eq (tgt := 74) C dX11_agreesWithNotes_69 rfl hE (fun hE => ?_) (fun hE => ?_)
      · refine j_iinc (v := (x2 + 1)) (lv' := [(2, .int (x2 + 1)), (3, .int v4), (0, .ref (ad 0)), (1, .int x1)]) C dX11_agreesWithNotes_74 3 rfl (congrArg (fun w => x2 + w) jc_ic_1) (by decide) rfl ?_
        refine j_goto (tgt := 2) C dX11_agreesWithNotes_77 rfl ?_
        refine j_sub [2, 3, 0] rfl ?_
        exact hg x1 (x2 + 1) S5 hE
      · refine j_sub [] rfl ?_
        exact hk72  S5 hE
theorem q_X11_agreesWithNotes_2 {X : jX} {D : va_G} {ad : Nat → Nat} {cy : Nat → ClassId} (C : jC X (jMain D ad cy) RX11 cX11_agreesWithNotes (some .boolean) 4 4 95) {z : Int32 × jS} (Q : jRet X (jMain D ad cy) (some (.int z.1), z.2)) {k72 : jS → Option (Int32 × jS)} (hk72 : ∀  (S : jS), k72  S = some z → jJ X (jMain D ad cy) 72 [] [] S) {k80 : jS → Option (Int32 × jS)} (hk80 : ∀  (S : jS), k80  S = some z → jJ X (jMain D ad cy) 80 [] [] S) (x1 : Int32) (x2 : Int32) (S : jS) (hE : lp_X11_agreesWithNotes_2  k72 k80 x1 x2 S = some z) : jJ X (jMain D ad cy) 2 [(0, .ref (ad 0)), (1, .int x1), (2, .int x2)] [] S :=
  jloop_P (α := Int32 × Int32 × jS) (B := (fun g q => f_X11_agreesWithNotes_2  (fun x1 x2 S => g (x1, x2, S)) k72 k80 q.1 q.2.1 q.2.2)) (P := fun q => jJ X (jMain D ad cy) 2 [(0, .ref (ad 0)), (1, .int q.1), (2, .int q.2.1)] [] q.2.2) (fun g q hg h => p_X11_agreesWithNotes_2 C Q (g := fun x1 x2 S => g (x1, x2, S)) (fun x1 x2 S h => hg (x1, x2, S) h) hk72 hk80 q.1 q.2.1 q.2.2 h) jN (x1, x2, S) hE
set_option maxRecDepth 100000 in
theorem p_X11_agreesWithNotes_72 {X : jX} {D : va_G} {ad : Nat → Nat} {cy : Nat → ClassId} (C : jC X (jMain D ad cy) RX11 cX11_agreesWithNotes (some .boolean) 4 4 95) {z : Int32 × jS} (Q : jRet X (jMain D ad cy) (some (.int z.1), z.2))   (S : jS) (hE : f_X11_agreesWithNotes_72    S = some z) : jJ X (jMain D ad cy) 72 [] [] S := by
  unfold f_X11_agreesWithNotes_72 at hE
  refine j_iconst (v := 0) C dX11_agreesWithNotes_72 jc_ic_0 ?_
  exact j_zret C Q dX11_agreesWithNotes_73 hE
set_option maxRecDepth 100000 in
theorem p_X11_agreesWithNotes_80 {X : jX} {D : va_G} {ad : Nat → Nat} {cy : Nat → ClassId} (C : jC X (jMain D ad cy) RX11 cX11_agreesWithNotes (some .boolean) 4 4 95) {z : Int32 × jS} (Q : jRet X (jMain D ad cy) (some (.int z.1), z.2))   (S : jS) (hE : f_X11_agreesWithNotes_80    S = some z) : jJ X (jMain D ad cy) 80 [] [] S := by
  unfold f_X11_agreesWithNotes_80 at hE
  refine j_iconst (v := 1) C dX11_agreesWithNotes_80 jc_ic_1 ?_
  exact j_zret C Q dX11_agreesWithNotes_81 hE
set_option maxRecDepth 100000 in
theorem p_X11_agreesWithNotes_e {X : jX} {D : va_G} {ad : Nat → Nat} {cy : Nat → ClassId} (C : jC X (jMain D ad cy) RX11 cX11_agreesWithNotes (some .boolean) 4 4 95) {z : Int32 × jS} (Q : jRet X (jMain D ad cy) (some (.int z.1), z.2))  (x1 : Int32) (S : jS) (hE : f_X11_agreesWithNotes_e   x1 S = some z) : jJ X (jMain D ad cy) 0 [(0, .ref (ad 0)), (1, .int x1)] [] S := by
  unfold f_X11_agreesWithNotes_e at hE
  refine j_iconst (v := 0) C dX11_agreesWithNotes_0 jc_ic_0 ?_
  refine j_istore_n (i := 2) (lv' := [(2, .int 0), (0, .ref (ad 0)), (1, .int x1)]) C dX11_agreesWithNotes_1 rfl (by decide) rfl ?_
  refine j_sub [1, 2, 0] rfl ?_
  exact q_X11_agreesWithNotes_2 C Q (p_X11_agreesWithNotes_72 C Q ) (p_X11_agreesWithNotes_80 C Q ) x1 0 S hE
theorem c_X11_agreesWithNotes {l : Launch} {D : va_G} {ad : Nat → Nat} {cy : Nat → ClassId} (hO : jOk (jMain D ad cy)) (x1 : Int32) (S : jS) {z : Int32 × jS} (hz : f_X11_agreesWithNotes x1 S = some z) : Met l yX11_agreesWithNotes (.code yX11_agreesWithNotes cX11_agreesWithNotes 4 (some .boolean) :: jT) { frames := 4, cells := 0, slots := 0, locals := 95 } (va_Pc [.ref (ad 0), .int x1] (jInv (jMain D ad cy) S)) (jQ (jMain D ad cy) (some (.int z.1), z.2)) 0 0 (yA (jMain D ad cy)) :=
  jMet hO (by decide +kernel) rfl (Nat.le_of_ble_eq_true rfl) (fun X _ C Q => p_X11_agreesWithNotes_e C Q x1 S hz)
theorem k_X11_241_X11_agreesWithNotes {X : jX} {D : va_G} {ad : Nat → Nat} {cy : Nat → ClassId} {cc : ByteArray} {ret : Option FieldType} {nL fr lo pc : Nat} {lv : List (Nat × Value)} {st : List Value} {S : jS} {β : Type} {z : β} (C : jC X (jMain D ad cy) RX11 cc ret nL fr lo) {a0 : Int32} {E : Int32 → jS → Option β} (d : decode cc pc = .ok (.invokevirtual 241, 3)) (hE : jcl (f_X11_agreesWithNotes a0 S) E = some z) (hfr : 5 ≤ fr) (hlo : 118 ≤ lo) (hst : (st.map fun v => v.category).sum ≤ 8) (K : ∀ (v : Int32) (S1 : jS), E v S1 = some z → jJ X (jMain D ad cy) (pc + 3) lv (.int v :: st) S1) : jJ X (jMain D ad cy) pc lv (.int a0 :: .ref (ad 0) :: st) S := by
  obtain ⟨v, h1, h2⟩ := jcl_some hE
  exact j_callV (k := 0) (ci := 11) (T := TX11) (N := 16) (n := 1) (As := [.int a0]) C (c_X11_agreesWithNotes C.2.2.2.2.2.2.1 a0 S h1) tw_787 tw_789 tw_27 tw_69 tw_790 (by decide +kernel) rfl (by decide : 0 < 56) rfl rfl hfr hlo hst rfl d (K _ _ h2)
set_option maxRecDepth 100000 in
theorem p_X11_laws_49 {X : jX} {D : va_G} {ad : Nat → Nat} {cy : Nat → ClassId} (C : jC X (jMain D ad cy) RX11 cX11_laws (some .int) 5 5 118) {z : Int32 × jS} (Q : jRet X (jMain D ad cy) (some (.int z.1), z.2)) {g : Int32 → Int32 → Int32 → Int32 → jS → Option (Int32 × jS)} (hg : ∀ (x1 : Int32) (x2 : Int32) (x3 : Int32) (x4 : Int32) (S : jS), g x1 x2 x3 x4 S = some z → jJ X (jMain D ad cy) 19 [(0, .ref (ad 0)), (1, .int x1), (2, .int x2), (3, .int x3), (4, .int x4)] [] S) {k55 : Int32 → Int32 → Int32 → jS → Option (Int32 × jS)} (hk55 : ∀ (x1 : Int32) (x2 : Int32) (x3 : Int32) (S : jS), k55 x1 x2 x3 S = some z → jJ X (jMain D ad cy) 55 [(1, .int x1), (2, .int x2), (3, .int x3)] [] S) (x1 : Int32) (x2 : Int32) (x3 : Int32) (x4 : Int32) (S : jS) (hE : f_X11_laws_49  g k55 x1 x2 x3 x4 S = some z) : jJ X (jMain D ad cy) 49 [(0, .ref (ad 0)), (1, .int x1), (2, .int x2), (3, .int x3), (4, .int x4)] [] S := by
  unfold f_X11_laws_49 at hE
  refine j_iinc (v := (x4 + 1)) (lv' := [(4, .int (x4 + 1)), (0, .ref (ad 0)), (1, .int x1), (2, .int x2), (3, .int x3)]) C dX11_laws_49 4 rfl (congrArg (fun w => x4 + w) jc_ic_1) (by decide) rfl ?_
  refine j_goto (tgt := 19) C dX11_laws_52 rfl ?_
  refine j_sub [1, 2, 3, 4, 0] rfl ?_
  exact hg x1 x2 x3 (x4 + 1) S hE
set_option maxRecDepth 100000 in
theorem p_X11_laws_45 {X : jX} {D : va_G} {ad : Nat → Nat} {cy : Nat → ClassId} (C : jC X (jMain D ad cy) RX11 cX11_laws (some .int) 5 5 118) {z : Int32 × jS} (Q : jRet X (jMain D ad cy) (some (.int z.1), z.2)) {g : Int32 → Int32 → Int32 → Int32 → jS → Option (Int32 × jS)} (hg : ∀ (x1 : Int32) (x2 : Int32) (x3 : Int32) (x4 : Int32) (S : jS), g x1 x2 x3 x4 S = some z → jJ X (jMain D ad cy) 19 [(0, .ref (ad 0)), (1, .int x1), (2, .int x2), (3, .int x3), (4, .int x4)] [] S) {k55 : Int32 → Int32 → Int32 → jS → Option (Int32 × jS)} (hk55 : ∀ (x1 : Int32) (x2 : Int32) (x3 : Int32) (S : jS), k55 x1 x2 x3 S = some z → jJ X (jMain D ad cy) 55 [(1, .int x1), (2, .int x2), (3, .int x3)] [] S) (a0 : Int32) (x1 : Int32) (x2 : Int32) (x4 : Int32) (S : jS) (hE : f_X11_laws_45  g k55 a0 x1 x2 x4 S = some z) : jJ X (jMain D ad cy) 45 [(0, .ref (ad 0)), (1, .int x1), (2, .int x2), (4, .int x4)] [.int a0] S := by
  unfold f_X11_laws_45 at hE
  refine j_istore_n (i := 3) (lv' := [(3, .int a0), (0, .ref (ad 0)), (1, .int x1), (2, .int x2), (4, .int x4)]) C dX11_laws_45 rfl (by decide) rfl ?_
  refine j_iinc (v := (x2 + 1)) (lv' := [(2, .int (x2 + 1)), (3, .int a0), (0, .ref (ad 0)), (1, .int x1), (4, .int x4)]) C dX11_laws_46 3 rfl (congrArg (fun w => x2 + w) jc_ic_1) (by decide) rfl ?_
  refine j_sub [2, 3, 0, 1, 4] rfl ?_
  exact p_X11_laws_49 C Q hg hk55 x1 (x2 + 1) a0 x4 S hE
set_option maxRecDepth 100000 in
theorem p_X11_laws_19 {X : jX} {D : va_G} {ad : Nat → Nat} {cy : Nat → ClassId} (C : jC X (jMain D ad cy) RX11 cX11_laws (some .int) 5 5 118) {z : Int32 × jS} (Q : jRet X (jMain D ad cy) (some (.int z.1), z.2)) {g : Int32 → Int32 → Int32 → Int32 → jS → Option (Int32 × jS)} (hg : ∀ (x1 : Int32) (x2 : Int32) (x3 : Int32) (x4 : Int32) (S : jS), g x1 x2 x3 x4 S = some z → jJ X (jMain D ad cy) 19 [(0, .ref (ad 0)), (1, .int x1), (2, .int x2), (3, .int x3), (4, .int x4)] [] S) {k55 : Int32 → Int32 → Int32 → jS → Option (Int32 × jS)} (hk55 : ∀ (x1 : Int32) (x2 : Int32) (x3 : Int32) (S : jS), k55 x1 x2 x3 S = some z → jJ X (jMain D ad cy) 55 [(1, .int x1), (2, .int x2), (3, .int x3)] [] S) (x1 : Int32) (x2 : Int32) (x3 : Int32) (x4 : Int32) (S : jS) (hE : f_X11_laws_19  g k55 x1 x2 x3 x4 S = some z) : jJ X (jMain D ad cy) 19 [(0, .ref (ad 0)), (1, .int x1), (2, .int x2), (3, .int x3), (4, .int x4)] [] S := by
  unfold f_X11_laws_19 at hE
  refine j_iload C dX11_laws_19 4 rfl ?_
  refine j_bipush (v := 60) C dX11_laws_21 jc_bp_60 ?_
  refine j_icmp_ge (tgt := 55) C dX11_laws_23 rfl hE (fun hE => ?_) (fun hE => ?_)
  · refine j_sub [1, 2, 3] rfl ?_
    exact hk55 x1 x2 x3 S hE
  · refine j_aload_n C dX11_laws_26 0 rfl ?_
    refine j_iload C dX11_laws_27 4 rfl ?_
    refine k_X11_241_X11_agreesWithNotes C dX11_laws_29 hE (Nat.le_of_ble_eq_true rfl) (Nat.le_of_ble_eq_true rfl) (Nat.le_of_ble_eq_true rfl) (fun v2 S1 hE => ?_)
    refine j_if_eq (tgt := 49) C dX11_laws_32 rfl hE (fun hE => ?_) (fun hE => ?_)
    · exact p_X11_laws_49 C Q hg hk55 x1 x2 x3 x4 S1 hE
    · refine j_iload_n C dX11_laws_35 2 rfl ?_
      refine j_if_ne (tgt := 44) C dX11_laws_36 rfl hE (fun hE => ?_) (fun hE => ?_)
      · refine j_iload_n C dX11_laws_44 3 rfl ?_
        refine j_sub [0, 1, 2, 4] rfl ?_
        exact p_X11_laws_45 C Q hg hk55 x3 x1 x2 x4 S1 hE
      · refine j_iload C dX11_laws_39 4 rfl ?_
        refine j_goto (tgt := 45) C dX11_laws_41 rfl ?_
        refine j_sub [0, 1, 2, 4] rfl ?_
        exact p_X11_laws_45 C Q hg hk55 x4 x1 x2 x4 S1 hE
theorem q_X11_laws_19 {X : jX} {D : va_G} {ad : Nat → Nat} {cy : Nat → ClassId} (C : jC X (jMain D ad cy) RX11 cX11_laws (some .int) 5 5 118) {z : Int32 × jS} (Q : jRet X (jMain D ad cy) (some (.int z.1), z.2)) {k55 : Int32 → Int32 → Int32 → jS → Option (Int32 × jS)} (hk55 : ∀ (x1 : Int32) (x2 : Int32) (x3 : Int32) (S : jS), k55 x1 x2 x3 S = some z → jJ X (jMain D ad cy) 55 [(1, .int x1), (2, .int x2), (3, .int x3)] [] S) (x1 : Int32) (x2 : Int32) (x3 : Int32) (x4 : Int32) (S : jS) (hE : lp_X11_laws_19  k55 x1 x2 x3 x4 S = some z) : jJ X (jMain D ad cy) 19 [(0, .ref (ad 0)), (1, .int x1), (2, .int x2), (3, .int x3), (4, .int x4)] [] S :=
  jloop_P (α := Int32 × Int32 × Int32 × Int32 × jS) (B := (fun g q => f_X11_laws_19  (fun x1 x2 x3 x4 S => g (x1, x2, x3, x4, S)) k55 q.1 q.2.1 q.2.2.1 q.2.2.2.1 q.2.2.2.2)) (P := fun q => jJ X (jMain D ad cy) 19 [(0, .ref (ad 0)), (1, .int q.1), (2, .int q.2.1), (3, .int q.2.2.1), (4, .int q.2.2.2.1)] [] q.2.2.2.2) (fun g q hg h => p_X11_laws_19 C Q (g := fun x1 x2 x3 x4 S => g (x1, x2, x3, x4, S)) (fun x1 x2 x3 x4 S h => hg (x1, x2, x3, x4, S) h) hk55 q.1 q.2.1 q.2.2.1 q.2.2.2.1 q.2.2.2.2 h) jN (x1, x2, x3, x4, S) hE
set_option maxRecDepth 100000 in
theorem p_X11_laws_64 {X : jX} {D : va_G} {ad : Nat → Nat} {cy : Nat → ClassId} (C : jC X (jMain D ad cy) RX11 cX11_laws (some .int) 5 5 118) {z : Int32 × jS} (Q : jRet X (jMain D ad cy) (some (.int z.1), z.2))  (a0 : Int32) (S : jS) (hE : f_X11_laws_64   a0 S = some z) : jJ X (jMain D ad cy) 64 [] [.int a0] S := by
  unfold f_X11_laws_64 at hE
  exact j_iret C Q dX11_laws_64 hE
set_option maxRecDepth 100000 in
theorem p_X11_laws_55 {X : jX} {D : va_G} {ad : Nat → Nat} {cy : Nat → ClassId} (C : jC X (jMain D ad cy) RX11 cX11_laws (some .int) 5 5 118) {z : Int32 × jS} (Q : jRet X (jMain D ad cy) (some (.int z.1), z.2))  (x1 : Int32) (x2 : Int32) (x3 : Int32) (S : jS) (hE : f_X11_laws_55   x1 x2 x3 S = some z) : jJ X (jMain D ad cy) 55 [(1, .int x1), (2, .int x2), (3, .int x3)] [] S := by
  unfold f_X11_laws_55 at hE
  refine j_iload_n C dX11_laws_55 0 rfl ?_
  refine j_if_ne (tgt := 63) C dX11_laws_56 rfl hE (fun hE => ?_) (fun hE => ?_)
  · refine j_iload_n C dX11_laws_63 2 rfl ?_
    refine j_sub [] rfl ?_
    exact p_X11_laws_64 C Q  x3 S hE
  · refine j_iload_n C dX11_laws_59 1 rfl ?_
    refine j_goto (tgt := 64) C dX11_laws_60 rfl ?_
    refine j_sub [] rfl ?_
    exact p_X11_laws_64 C Q  x2 S hE
set_option maxRecDepth 100000 in
theorem p_X11_laws_e {X : jX} {D : va_G} {ad : Nat → Nat} {cy : Nat → ClassId} (C : jC X (jMain D ad cy) RX11 cX11_laws (some .int) 5 5 118) {z : Int32 × jS} (Q : jRet X (jMain D ad cy) (some (.int z.1), z.2))  (x1 : Int32) (S : jS) (hE : f_X11_laws_e   x1 S = some z) : jJ X (jMain D ad cy) 0 [(0, .ref (ad 0)), (1, .int x1)] [] S := by
  unfold f_X11_laws_e at hE
  refine j_iload_n C dX11_laws_0 1 rfl ?_
  refine k_X11_160_X11_isBit C dX11_laws_1 hE (Nat.le_of_ble_eq_true rfl) (Nat.le_of_ble_eq_true rfl) (Nat.le_of_ble_eq_true rfl) (fun v2 S1 hE => ?_)
  refine j_if_ne (tgt := 12) C dX11_laws_4 rfl hE (fun hE => ?_) (fun hE => ?_)
  · refine j_iconst (v := 0) C dX11_laws_12 jc_ic_0 ?_
    refine j_istore_n (i := 2) (lv' := [(2, .int 0), (0, .ref (ad 0)), (1, .int x1)]) C dX11_laws_13 rfl (by decide) rfl ?_
    refine j_iconst (v := (-1)) C dX11_laws_14 jc_ic_m1 ?_
    refine j_istore_n (i := 3) (lv' := [(3, .int (-1)), (2, .int 0), (0, .ref (ad 0)), (1, .int x1)]) C dX11_laws_15 rfl (by decide) rfl ?_
    refine j_iconst (v := 0) C dX11_laws_16 jc_ic_0 ?_
    refine j_istore (lv' := [(4, .int 0), (3, .int (-1)), (2, .int 0), (0, .ref (ad 0)), (1, .int x1)]) C dX11_laws_17 (by decide) rfl ?_
    refine j_sub [3, 4, 2, 1, 0] rfl ?_
    exact q_X11_laws_19 C Q (p_X11_laws_55 C Q ) x1 0 (-1) 0 S1 hE
  · refine j_aload_n C dX11_laws_7 0 rfl ?_
    refine k_X11_171_X11_refuseBadApart C dX11_laws_8 hE (Nat.le_of_ble_eq_true rfl) (Nat.le_of_ble_eq_true rfl) (Nat.le_of_ble_eq_true rfl) (fun v4 S3 hE => ?_)
    exact j_iret C Q dX11_laws_11 hE
theorem c_X11_laws {l : Launch} {D : va_G} {ad : Nat → Nat} {cy : Nat → ClassId} (hO : jOk (jMain D ad cy)) (x1 : Int32) (S : jS) {z : Int32 × jS} (hz : f_X11_laws x1 S = some z) : Met l yX11_laws (.code yX11_laws cX11_laws 5 (some .int) :: jT) { frames := 5, cells := 0, slots := 0, locals := 118 } (va_Pc [.ref (ad 0), .int x1] (jInv (jMain D ad cy) S)) (jQ (jMain D ad cy) (some (.int z.1), z.2)) 0 0 (yA (jMain D ad cy)) :=
  jMet hO (by decide +kernel) rfl (Nat.le_of_ble_eq_true rfl) (fun X _ C Q => p_X11_laws_e C Q x1 S hz)
set_option maxRecDepth 100000 in
theorem p_X12_forget_28 {X : jX} {D : va_G} {ad : Nat → Nat} {cy : Nat → ClassId} (C : jC X (jMain D ad cy) RX12 cX12_forget (some .int) 4 1 25) {z : Int32 × jS} (Q : jRet X (jMain D ad cy) (some (.int z.1), z.2))  (a0 : Int32) (S : jS) (hE : f_X12_forget_28   a0 S = some z) : jJ X (jMain D ad cy) 28 [(0, .ref (ad 41))] [.int a0] S := by
  unfold f_X12_forget_28 at hE
  refine j_istore_n (i := 2) (lv' := [(2, .int a0), (0, .ref (ad 41))]) C dX12_forget_28 rfl (by decide) rfl ?_
  refine j_aload_n C dX12_forget_29 1 rfl ?_
  refine g_X12_7_41 C dX12_forget_30 ?_
  refine j_iload_n C dX12_forget_33 0 rfl ?_
  refine l_42 C dX12_forget_34 hE (fun v1 hE => ?_)
  refine j_istore_n (i := 3) (lv' := [(3, .int v1), (2, .int a0), (0, .ref (ad 41))]) C dX12_forget_35 rfl (by decide) rfl ?_
  refine j_aload_n C dX12_forget_36 2 rfl ?_
  refine g_X12_7_41 C dX12_forget_37 ?_
  refine j_iload_n C dX12_forget_40 1 rfl ?_
  refine j_iconst (v := 0) C dX12_forget_41 jc_ic_0 ?_
  refine s_42 C dX12_forget_42 hE (fun S2 hE => ?_)
  refine j_iload_n C dX12_forget_43 0 rfl ?_
  exact j_iret C Q dX12_forget_44 hE
set_option maxRecDepth 100000 in
theorem p_X12_forget_e {X : jX} {D : va_G} {ad : Nat → Nat} {cy : Nat → ClassId} (C : jC X (jMain D ad cy) RX12 cX12_forget (some .int) 4 1 25) {z : Int32 × jS} (Q : jRet X (jMain D ad cy) (some (.int z.1), z.2))  (x1 : Int32) (S : jS) (hE : f_X12_forget_e   x1 S = some z) : jJ X (jMain D ad cy) 0 [(0, .ref (ad 41)), (1, .int x1)] [] S := by
  unfold f_X12_forget_e at hE
  refine j_iload_n C dX12_forget_0 1 rfl ?_
  refine j_i2l C dX12_forget_1 ?_
  refine j_lconst (v := 0) C dX12_forget_2 jc_lc_0 ?_
  refine j_lconst (v := 1) C dX12_forget_3 jc_lc_1 ?_
  refine k_X12_59_X12_in C dX12_forget_4 hE (Nat.le_of_ble_eq_true rfl) (Nat.le_of_ble_eq_true rfl) (Nat.le_of_ble_eq_true rfl) (fun v2 S1 hE => ?_)
  refine j_if_ne (tgt := 17) C dX12_forget_7 rfl hE (fun hE => ?_) (fun hE => ?_)
  · refine j_iload_n C dX12_forget_17 1 rfl ?_
    refine j_if_ne (tgt := 26) C dX12_forget_18 rfl hE (fun hE => ?_) (fun hE => ?_)
    · refine j_bipush (v := 11) C dX12_forget_26 jc_bp_11 ?_
      refine j_sub [0] rfl ?_
      exact p_X12_forget_28 C Q  11 S1 hE
    · refine j_bipush (v := 10) C dX12_forget_21 jc_bp_10 ?_
      refine j_goto (tgt := 28) C dX12_forget_23 rfl ?_
      refine j_sub [0] rfl ?_
      exact p_X12_forget_28 C Q  10 S1 hE
  · refine j_aload_n C dX12_forget_10 0 rfl ?_
    refine j_bipush (v := (-2)) C dX12_forget_11 jc_bp_m2 ?_
    refine k_X12_87_X12_bad C dX12_forget_13 hE (Nat.le_of_ble_eq_true rfl) (Nat.le_of_ble_eq_true rfl) (Nat.le_of_ble_eq_true rfl) (fun v4 S3 hE => ?_)
    exact j_iret C Q dX12_forget_16 hE
theorem c_X12_forget {l : Launch} {D : va_G} {ad : Nat → Nat} {cy : Nat → ClassId} (hO : jOk (jMain D ad cy)) (x1 : Int32) (S : jS) {z : Int32 × jS} (hz : f_X12_forget x1 S = some z) : Met l yX12_forget (.code yX12_forget cX12_forget 4 (some .int) :: jT) { frames := 1, cells := 0, slots := 0, locals := 25 } (va_Pc [.ref (ad 41), .int x1] (jInv (jMain D ad cy) S)) (jQ (jMain D ad cy) (some (.int z.1), z.2)) 0 0 (yA (jMain D ad cy)) :=
  jMet hO (by decide +kernel) rfl (Nat.le_of_ble_eq_true rfl) (fun X _ C Q => p_X12_forget_e C Q x1 S hz)
set_option maxRecDepth 100000 in
theorem p_X11_forget_57 {X : jX} {D : va_G} {ad : Nat → Nat} {cy : Nat → ClassId} (C : jC X (jMain D ad cy) RX11 cX11_forget (some .int) 3 1 20) {z : Int32 × jS} (Q : jRet X (jMain D ad cy) (some (.int z.1), z.2))  (x2 : Int32) (S : jS) (hE : f_X11_forget_57   x2 S = some z) : jJ X (jMain D ad cy) 57 [(2, .int x2)] [] S := by
  unfold f_X11_forget_57 at hE
  refine j_iload_n C dX11_forget_57 0 rfl ?_
  exact j_iret C Q dX11_forget_58 hE
set_option maxRecDepth 100000 in
theorem p_X11_forget_33 {X : jX} {D : va_G} {ad : Nat → Nat} {cy : Nat → ClassId} (C : jC X (jMain D ad cy) RX11 cX11_forget (some .int) 3 1 20) {z : Int32 × jS} (Q : jRet X (jMain D ad cy) (some (.int z.1), z.2))  (a0 : Int32) (x1 : Int32) (S : jS) (hE : f_X11_forget_33   a0 x1 S = some z) : jJ X (jMain D ad cy) 33 [(0, .ref (ad 0)), (1, .int x1)] [.int a0] S := by
  unfold f_X11_forget_33 at hE
  refine j_istore_n (i := 2) (lv' := [(2, .int a0), (0, .ref (ad 0)), (1, .int x1)]) C dX11_forget_33 rfl (by decide) rfl ?_
  refine j_iload_n C dX11_forget_34 2 rfl ?_
  refine j_if_ne (tgt := 49) C dX11_forget_35 rfl hE (fun hE => ?_) (fun hE => ?_)
  · refine j_aload_n C dX11_forget_49 1 rfl ?_
    refine g_X11_44_0 C dX11_forget_50 ?_
    refine j_iconst (v := 0) C dX11_forget_53 jc_ic_0 ?_
    refine p_X11_234_21 C dX11_forget_54 hE (fun S1 hE => ?_)
    refine j_sub [0] rfl ?_
    exact p_X11_forget_57 C Q  a0 S1 hE
  · refine j_aload_n C dX11_forget_38 1 rfl ?_
    refine g_X11_44_0 C dX11_forget_39 ?_
    refine j_iconst (v := 0) C dX11_forget_42 jc_ic_0 ?_
    refine p_X11_221_21 C dX11_forget_43 hE (fun S2 hE => ?_)
    refine j_goto (tgt := 57) C dX11_forget_46 rfl ?_
    refine j_sub [0] rfl ?_
    exact p_X11_forget_57 C Q  a0 S2 hE
set_option maxRecDepth 100000 in
theorem p_X11_forget_e {X : jX} {D : va_G} {ad : Nat → Nat} {cy : Nat → ClassId} (C : jC X (jMain D ad cy) RX11 cX11_forget (some .int) 3 1 20) {z : Int32 × jS} (Q : jRet X (jMain D ad cy) (some (.int z.1), z.2))  (x1 : Int32) (S : jS) (hE : f_X11_forget_e   x1 S = some z) : jJ X (jMain D ad cy) 0 [(0, .ref (ad 0)), (1, .int x1)] [] S := by
  unfold f_X11_forget_e at hE
  refine j_iload_n C dX11_forget_0 1 rfl ?_
  refine k_X11_160_X11_isBit C dX11_forget_1 hE (Nat.le_of_ble_eq_true rfl) (Nat.le_of_ble_eq_true rfl) (Nat.le_of_ble_eq_true rfl) (fun v2 S1 hE => ?_)
  refine j_if_ne (tgt := 12) C dX11_forget_4 rfl hE (fun hE => ?_) (fun hE => ?_)
  · refine j_iload_n C dX11_forget_12 1 rfl ?_
    refine j_if_ne (tgt := 26) C dX11_forget_13 rfl hE (fun hE => ?_) (fun hE => ?_)
    · refine j_aload_n C dX11_forget_26 0 rfl ?_
      refine g_X11_44_0 C dX11_forget_27 ?_
      refine g_X11_234_21 C dX11_forget_30 ?_
      exact p_X11_forget_33 C Q  (S1.1 21 5) x1 S1 hE
    · refine j_aload_n C dX11_forget_16 0 rfl ?_
      refine g_X11_44_0 C dX11_forget_17 ?_
      refine g_X11_221_21 C dX11_forget_20 ?_
      refine j_goto (tgt := 33) C dX11_forget_23 rfl ?_
      exact p_X11_forget_33 C Q  (S1.1 21 3) x1 S1 hE
  · refine j_aload_n C dX11_forget_7 0 rfl ?_
    refine k_X11_74_X11_refuseBad C dX11_forget_8 hE (Nat.le_of_ble_eq_true rfl) (Nat.le_of_ble_eq_true rfl) (Nat.le_of_ble_eq_true rfl) (fun v4 S3 hE => ?_)
    exact j_iret C Q dX11_forget_11 hE
theorem c_X11_forget {l : Launch} {D : va_G} {ad : Nat → Nat} {cy : Nat → ClassId} (hO : jOk (jMain D ad cy)) (x1 : Int32) (S : jS) {z : Int32 × jS} (hz : f_X11_forget x1 S = some z) : Met l yX11_forget (.code yX11_forget cX11_forget 3 (some .int) :: jT) { frames := 1, cells := 0, slots := 0, locals := 20 } (va_Pc [.ref (ad 0), .int x1] (jInv (jMain D ad cy) S)) (jQ (jMain D ad cy) (some (.int z.1), z.2)) 0 0 (yA (jMain D ad cy)) :=
  jMet hO (by decide +kernel) rfl (Nat.le_of_ble_eq_true rfl) (fun X _ C Q => p_X11_forget_e C Q x1 S hz)
set_option maxRecDepth 100000 in
theorem p_X12_split_47 {X : jX} {D : va_G} {ad : Nat → Nat} {cy : Nat → ClassId} (C : jC X (jMain D ad cy) RX12 cX12_split (some .int) 5 5 113) {z : Int32 × jS} (Q : jRet X (jMain D ad cy) (some (.int z.1), z.2)) {g : Int32 → Int32 → Int32 → jS → Option (Int32 × jS)} (hg : ∀ (x1 : Int32) (x2 : Int32) (x3 : Int32) (S : jS), g x1 x2 x3 S = some z → jJ X (jMain D ad cy) 19 [(0, .ref (ad 41)), (1, .int x1), (2, .int x2), (3, .int x3)] [] S) {k54 : Int32 → Int32 → jS → Option (Int32 × jS)} (hk54 : ∀ (x1 : Int32) (x2 : Int32) (S : jS), k54 x1 x2 S = some z → jJ X (jMain D ad cy) 54 [(0, .ref (ad 41)), (1, .int x1), (2, .int x2)] [] S) (a0 : Int32) (x1 : Int32) (x3 : Int32) (S : jS) (hE : f_X12_split_47  g k54 a0 x1 x3 S = some z) : jJ X (jMain D ad cy) 47 [(0, .ref (ad 41)), (1, .int x1), (3, .int x3)] [.int a0] S := by
  unfold f_X12_split_47 at hE
  refine j_istore_n (i := 2) (lv' := [(2, .int a0), (0, .ref (ad 41)), (1, .int x1), (3, .int x3)]) C dX12_split_47 rfl (by decide) rfl ?_
  refine j_iinc (v := (x3 + (-1))) (lv' := [(3, .int (x3 + (-1))), (2, .int a0), (0, .ref (ad 41)), (1, .int x1)]) C dX12_split_48 3 rfl (congrArg (fun w => x3 + w) jc_ic_m1) (by decide) rfl ?_
  refine j_goto (tgt := 19) C dX12_split_51 rfl ?_
  refine j_sub [2, 3, 1, 0] rfl ?_
  exact hg x1 a0 (x3 + (-1)) S hE
set_option maxRecDepth 100000 in
theorem p_X12_split_19 {X : jX} {D : va_G} {ad : Nat → Nat} {cy : Nat → ClassId} (C : jC X (jMain D ad cy) RX12 cX12_split (some .int) 5 5 113) {z : Int32 × jS} (Q : jRet X (jMain D ad cy) (some (.int z.1), z.2)) {g : Int32 → Int32 → Int32 → jS → Option (Int32 × jS)} (hg : ∀ (x1 : Int32) (x2 : Int32) (x3 : Int32) (S : jS), g x1 x2 x3 S = some z → jJ X (jMain D ad cy) 19 [(0, .ref (ad 41)), (1, .int x1), (2, .int x2), (3, .int x3)] [] S) {k54 : Int32 → Int32 → jS → Option (Int32 × jS)} (hk54 : ∀ (x1 : Int32) (x2 : Int32) (S : jS), k54 x1 x2 S = some z → jJ X (jMain D ad cy) 54 [(0, .ref (ad 41)), (1, .int x1), (2, .int x2)] [] S) (x1 : Int32) (x2 : Int32) (x3 : Int32) (S : jS) (hE : f_X12_split_19  g k54 x1 x2 x3 S = some z) : jJ X (jMain D ad cy) 19 [(0, .ref (ad 41)), (1, .int x1), (2, .int x2), (3, .int x3)] [] S := by
  unfold f_X12_split_19 at hE
  refine j_iload_n C dX12_split_19 3 rfl ?_
  refine j_if_le (tgt := 54) C dX12_split_20 rfl hE (fun hE => ?_) (fun hE => ?_)
  · refine j_sub [0, 1, 2] rfl ?_
    exact hk54 x1 x2 S hE
  · refine j_iload_n C dX12_split_23 1 rfl ?_
    refine j_iload_n C dX12_split_24 3 rfl ?_
    refine j_iadd C dX12_split_25 ?_
    refine j_bipush (v := 8) C dX12_split_26 jc_bp_8 ?_
    refine j_irem C dX12_split_28 hE (fun v1 hE => ?_)
    refine j_istore (lv' := [(4, .int v1), (0, .ref (ad 41)), (1, .int x1), (2, .int x2), (3, .int x3)]) C dX12_split_29 (by decide) rfl ?_
    refine j_aload_n C dX12_split_31 1 rfl ?_
    refine g_X12_7_41 C dX12_split_32 ?_
    refine j_iload C dX12_split_35 0 rfl ?_
    refine l_42 C dX12_split_37 hE (fun v2 hE => ?_)
    refine j_if_ne (tgt := 46) C dX12_split_38 rfl hE (fun hE => ?_) (fun hE => ?_)
    · refine j_iload_n C dX12_split_46 3 rfl ?_
      refine j_sub [1, 2, 4] rfl ?_
      exact p_X12_split_47 C Q hg hk54 x2 x1 x3 S hE
    · refine j_iload C dX12_split_41 0 rfl ?_
      refine j_goto (tgt := 47) C dX12_split_43 rfl ?_
      refine j_sub [1, 2, 4] rfl ?_
      exact p_X12_split_47 C Q hg hk54 v1 x1 x3 S hE
theorem q_X12_split_19 {X : jX} {D : va_G} {ad : Nat → Nat} {cy : Nat → ClassId} (C : jC X (jMain D ad cy) RX12 cX12_split (some .int) 5 5 113) {z : Int32 × jS} (Q : jRet X (jMain D ad cy) (some (.int z.1), z.2)) {k54 : Int32 → Int32 → jS → Option (Int32 × jS)} (hk54 : ∀ (x1 : Int32) (x2 : Int32) (S : jS), k54 x1 x2 S = some z → jJ X (jMain D ad cy) 54 [(0, .ref (ad 41)), (1, .int x1), (2, .int x2)] [] S) (x1 : Int32) (x2 : Int32) (x3 : Int32) (S : jS) (hE : lp_X12_split_19  k54 x1 x2 x3 S = some z) : jJ X (jMain D ad cy) 19 [(0, .ref (ad 41)), (1, .int x1), (2, .int x2), (3, .int x3)] [] S :=
  jloop_P (α := Int32 × Int32 × Int32 × jS) (B := (fun g q => f_X12_split_19  (fun x1 x2 x3 S => g (x1, x2, x3, S)) k54 q.1 q.2.1 q.2.2.1 q.2.2.2)) (P := fun q => jJ X (jMain D ad cy) 19 [(0, .ref (ad 41)), (1, .int q.1), (2, .int q.2.1), (3, .int q.2.2.1)] [] q.2.2.2) (fun g q hg h => p_X12_split_19 C Q (g := fun x1 x2 x3 S => g (x1, x2, x3, S)) (fun x1 x2 x3 S h => hg (x1, x2, x3, S) h) hk54 q.1 q.2.1 q.2.2.1 q.2.2.2 h) jN (x1, x2, x3, S) hE
set_option maxRecDepth 100000 in
theorem p_X12_split_69 {X : jX} {D : va_G} {ad : Nat → Nat} {cy : Nat → ClassId} (C : jC X (jMain D ad cy) RX12 cX12_split (some .int) 5 5 113) {z : Int32 × jS} (Q : jRet X (jMain D ad cy) (some (.int z.1), z.2))   (S : jS) (hE : f_X12_split_69    S = some z) : jJ X (jMain D ad cy) 69 [] [] S := by
  unfold f_X12_split_69 at hE
  refine j_iconst (v := (-1)) C dX12_split_69 jc_ic_m1 ?_
  exact j_iret C Q dX12_split_70 hE
set_option maxRecDepth 100000 in
theorem p_X12_split_54 {X : jX} {D : va_G} {ad : Nat → Nat} {cy : Nat → ClassId} (C : jC X (jMain D ad cy) RX12 cX12_split (some .int) 5 5 113) {z : Int32 × jS} (Q : jRet X (jMain D ad cy) (some (.int z.1), z.2))  (x1 : Int32) (x2 : Int32) (S : jS) (hE : f_X12_split_54   x1 x2 S = some z) : jJ X (jMain D ad cy) 54 [(0, .ref (ad 41)), (1, .int x1), (2, .int x2)] [] S := by
  unfold f_X12_split_54 at hE
  refine j_iload_n C dX12_split_54 2 rfl ?_
  refine j_iconst (v := (-1)) C dX12_split_55 jc_ic_m1 ?_
  refine j_icmp_eq (tgt := 69) C dX12_split_56 rfl hE (fun hE => ?_) (fun hE => ?_)
  · refine j_sub [] rfl ?_
    exact p_X12_split_69 C Q   S hE
  · refine j_aload_n C dX12_split_59 0 rfl ?_
    refine g_X12_7_41 C dX12_split_60 ?_
    refine j_iload_n C dX12_split_63 1 rfl ?_
    refine l_42 C dX12_split_64 hE (fun v1 hE => ?_)
    refine j_iconst (v := 2) C dX12_split_65 jc_ic_2 ?_
    refine j_icmp_ge (tgt := 71) C dX12_split_66 rfl hE (fun hE => ?_) (fun hE => ?_)
    · refine j_aload_n C dX12_split_71 0 rfl ?_
      refine k_X12_125_X12_layHand C dX12_split_72 hE (Nat.le_of_ble_eq_true rfl) (Nat.le_of_ble_eq_true rfl) (Nat.le_of_ble_eq_true rfl) (fun S2 hE => ?_)
      refine j_aload_n C dX12_split_75 0 rfl ?_
      refine g_X12_30_41 C dX12_split_76 ?_
      refine j_iload_n C dX12_split_79 1 rfl ?_
      refine j_aload_n C dX12_split_80 0 rfl ?_
      refine g_X12_7_41 C dX12_split_81 ?_
      refine j_iload_n C dX12_split_84 1 rfl ?_
      refine l_42 C dX12_split_85 hE (fun v3 hE => ?_)
      refine j_iconst (v := 2) C dX12_split_86 jc_ic_2 ?_
      refine j_idiv C dX12_split_87 hE (fun v4 hE => ?_)
      refine s_47 C dX12_split_88 hE (fun S5 hE => ?_)
      refine j_aload_n C dX12_split_89 0 rfl ?_
      refine g_X12_30_41 C dX12_split_90 ?_
      refine j_iload_n C dX12_split_93 2 rfl ?_
      refine j_aload_n C dX12_split_94 0 rfl ?_
      refine g_X12_7_41 C dX12_split_95 ?_
      refine j_iload_n C dX12_split_98 1 rfl ?_
      refine l_42 C dX12_split_99 hE (fun v6 hE => ?_)
      refine j_aload_n C dX12_split_100 0 rfl ?_
      refine g_X12_7_41 C dX12_split_101 ?_
      refine j_iload_n C dX12_split_104 1 rfl ?_
      refine l_42 C dX12_split_105 hE (fun v7 hE => ?_)
      refine j_iconst (v := 2) C dX12_split_106 jc_ic_2 ?_
      refine j_idiv C dX12_split_107 hE (fun v8 hE => ?_)
      refine j_isub C dX12_split_108 ?_
      refine s_47 C dX12_split_109 hE (fun S9 hE => ?_)
      refine j_aload_n C dX12_split_110 0 rfl ?_
      refine k_X12_134_X12_manyQuarrels C dX12_split_111 hE (Nat.le_of_ble_eq_true rfl) (Nat.le_of_ble_eq_true rfl) (Nat.le_of_ble_eq_true rfl) (fun v11 S10 hE => ?_)
      exact j_iret C Q dX12_split_114 hE
    · refine j_sub [] rfl ?_
      exact p_X12_split_69 C Q   S hE
set_option maxRecDepth 100000 in
theorem p_X12_split_e {X : jX} {D : va_G} {ad : Nat → Nat} {cy : Nat → ClassId} (C : jC X (jMain D ad cy) RX12 cX12_split (some .int) 5 5 113) {z : Int32 × jS} (Q : jRet X (jMain D ad cy) (some (.int z.1), z.2))  (x1 : Int32) (S : jS) (hE : f_X12_split_e   x1 S = some z) : jJ X (jMain D ad cy) 0 [(0, .ref (ad 41)), (1, .int x1)] [] S := by
  unfold f_X12_split_e at hE
  refine j_iload_n C dX12_split_0 1 rfl ?_
  refine k_X12_108_X12_isHouse C dX12_split_1 hE (Nat.le_of_ble_eq_true rfl) (Nat.le_of_ble_eq_true rfl) (Nat.le_of_ble_eq_true rfl) (fun v2 S1 hE => ?_)
  refine j_if_ne (tgt := 14) C dX12_split_4 rfl hE (fun hE => ?_) (fun hE => ?_)
  · refine j_iconst (v := (-1)) C dX12_split_14 jc_ic_m1 ?_
    refine j_istore_n (i := 2) (lv' := [(2, .int (-1)), (0, .ref (ad 41)), (1, .int x1)]) C dX12_split_15 rfl (by decide) rfl ?_
    refine j_bipush (v := 8) C dX12_split_16 jc_bp_8 ?_
    refine j_istore_n (i := 3) (lv' := [(3, .int 8), (2, .int (-1)), (0, .ref (ad 41)), (1, .int x1)]) C dX12_split_18 rfl (by decide) rfl ?_
    refine j_sub [2, 3, 1, 0] rfl ?_
    exact q_X12_split_19 C Q (p_X12_split_54 C Q ) x1 (-1) 8 S1 hE
  · refine j_aload_n C dX12_split_7 0 rfl ?_
    refine j_bipush (v := (-2)) C dX12_split_8 jc_bp_m2 ?_
    refine k_X12_87_X12_bad C dX12_split_10 hE (Nat.le_of_ble_eq_true rfl) (Nat.le_of_ble_eq_true rfl) (Nat.le_of_ble_eq_true rfl) (fun v4 S3 hE => ?_)
    exact j_iret C Q dX12_split_13 hE
theorem c_X12_split {l : Launch} {D : va_G} {ad : Nat → Nat} {cy : Nat → ClassId} (hO : jOk (jMain D ad cy)) (x1 : Int32) (S : jS) {z : Int32 × jS} (hz : f_X12_split x1 S = some z) : Met l yX12_split (.code yX12_split cX12_split 5 (some .int) :: jT) { frames := 5, cells := 0, slots := 0, locals := 113 } (va_Pc [.ref (ad 41), .int x1] (jInv (jMain D ad cy) S)) (jQ (jMain D ad cy) (some (.int z.1), z.2)) 0 0 (yA (jMain D ad cy)) :=
  jMet hO (by decide +kernel) rfl (Nat.le_of_ble_eq_true rfl) (fun X _ C Q => p_X12_split_e C Q x1 S hz)
set_option maxRecDepth 100000 in
theorem p_X11_emptyBehind_50 {X : jX} {D : va_G} {ad : Nat → Nat} {cy : Nat → ClassId} (C : jC X (jMain D ad cy) RX11 cX11_emptyBehind (some .int) 4 1 20) {z : Int32 × jS} (Q : jRet X (jMain D ad cy) (some (.int z.1), z.2)) {g : Int32 → Int32 → jS → Option (Int32 × jS)} (hg : ∀ (x1 : Int32) (x2 : Int32) (S : jS), g x1 x2 S = some z → jJ X (jMain D ad cy) 2 [(0, .ref (ad 0)), (1, .int x1), (2, .int x2)] [] S) {k48 : Int32 → jS → Option (Int32 × jS)} (hk48 : ∀ (x3 : Int32) (S : jS), k48 x3 S = some z → jJ X (jMain D ad cy) 48 [(3, .int x3)] [] S) {k56 : jS → Option (Int32 × jS)} (hk56 : ∀  (S : jS), k56  S = some z → jJ X (jMain D ad cy) 56 [] [] S) (x1 : Int32) (x2 : Int32) (S : jS) (hE : f_X11_emptyBehind_50  g k48 k56 x1 x2 S = some z) : jJ X (jMain D ad cy) 50 [(0, .ref (ad 0)), (1, .int x1), (2, .int x2)] [] S := by
  unfold f_X11_emptyBehind_50 at hE
  refine j_iinc (v := (x2 + 1)) (lv' := [(2, .int (x2 + 1)), (0, .ref (ad 0)), (1, .int x1)]) C dX11_emptyBehind_50 2 rfl (congrArg (fun w => x2 + w) jc_ic_1) (by decide) rfl ?_
  refine j_goto (tgt := 2) C dX11_emptyBehind_53 rfl ?_
  refine j_sub [1, 2, 0] rfl ?_
  exact hg x1 (x2 + 1) S hE
set_option maxRecDepth 100000 in
theorem p_X11_emptyBehind_28 {X : jX} {D : va_G} {ad : Nat → Nat} {cy : Nat → ClassId} (C : jC X (jMain D ad cy) RX11 cX11_emptyBehind (some .int) 4 1 20) {z : Int32 × jS} (Q : jRet X (jMain D ad cy) (some (.int z.1), z.2)) {g : Int32 → Int32 → jS → Option (Int32 × jS)} (hg : ∀ (x1 : Int32) (x2 : Int32) (S : jS), g x1 x2 S = some z → jJ X (jMain D ad cy) 2 [(0, .ref (ad 0)), (1, .int x1), (2, .int x2)] [] S) {k48 : Int32 → jS → Option (Int32 × jS)} (hk48 : ∀ (x3 : Int32) (S : jS), k48 x3 S = some z → jJ X (jMain D ad cy) 48 [(3, .int x3)] [] S) {k56 : jS → Option (Int32 × jS)} (hk56 : ∀  (S : jS), k56  S = some z → jJ X (jMain D ad cy) 56 [] [] S) (a0 : Int32) (x1 : Int32) (x2 : Int32) (S : jS) (hE : f_X11_emptyBehind_28  g k48 k56 a0 x1 x2 S = some z) : jJ X (jMain D ad cy) 28 [(0, .ref (ad 0)), (1, .int x1), (2, .int x2)] [.int a0] S := by
  unfold f_X11_emptyBehind_28 at hE
  refine j_istore_n (i := 3) (lv' := [(3, .int a0), (0, .ref (ad 0)), (1, .int x1), (2, .int x2)]) C dX11_emptyBehind_28 rfl (by decide) rfl ?_
  refine j_iload_n C dX11_emptyBehind_29 0 rfl ?_
  refine k_X11_92_X11_isHouse C dX11_emptyBehind_30 hE (Nat.le_of_ble_eq_true rfl) (Nat.le_of_ble_eq_true rfl) (Nat.le_of_ble_eq_true rfl) (fun v2 S1 hE => ?_)
  refine j_if_eq (tgt := 50) C dX11_emptyBehind_33 rfl hE (fun hE => ?_) (fun hE => ?_)
  · refine j_sub [1, 2, 3] rfl ?_
    exact p_X11_emptyBehind_50 C Q hg hk48 hk56 x1 x2 S1 hE
  · refine j_aload_n C dX11_emptyBehind_36 1 rfl ?_
    refine g_X11_44_0 C dX11_emptyBehind_37 ?_
    refine g_X11_96_21 C dX11_emptyBehind_40 ?_
    refine j_iload_n C dX11_emptyBehind_43 0 rfl ?_
    refine l_22 C dX11_emptyBehind_44 hE (fun v3 hE => ?_)
    refine j_if_ne (tgt := 50) C dX11_emptyBehind_45 rfl hE (fun hE => ?_) (fun hE => ?_)
    · refine j_sub [1, 2, 3] rfl ?_
      exact p_X11_emptyBehind_50 C Q hg hk48 hk56 x1 x2 S1 hE
    · refine j_sub [0] rfl ?_
      exact hk48 a0 S1 hE
set_option maxRecDepth 100000 in
theorem p_X11_emptyBehind_2 {X : jX} {D : va_G} {ad : Nat → Nat} {cy : Nat → ClassId} (C : jC X (jMain D ad cy) RX11 cX11_emptyBehind (some .int) 4 1 20) {z : Int32 × jS} (Q : jRet X (jMain D ad cy) (some (.int z.1), z.2)) {g : Int32 → Int32 → jS → Option (Int32 × jS)} (hg : ∀ (x1 : Int32) (x2 : Int32) (S : jS), g x1 x2 S = some z → jJ X (jMain D ad cy) 2 [(0, .ref (ad 0)), (1, .int x1), (2, .int x2)] [] S) {k48 : Int32 → jS → Option (Int32 × jS)} (hk48 : ∀ (x3 : Int32) (S : jS), k48 x3 S = some z → jJ X (jMain D ad cy) 48 [(3, .int x3)] [] S) {k56 : jS → Option (Int32 × jS)} (hk56 : ∀  (S : jS), k56  S = some z → jJ X (jMain D ad cy) 56 [] [] S) (x1 : Int32) (x2 : Int32) (S : jS) (hE : f_X11_emptyBehind_2  g k48 k56 x1 x2 S = some z) : jJ X (jMain D ad cy) 2 [(0, .ref (ad 0)), (1, .int x1), (2, .int x2)] [] S := by
  unfold f_X11_emptyBehind_2 at hE
  refine j_iload_n C dX11_emptyBehind_2 2 rfl ?_
  refine j_bipush (v := 8) C dX11_emptyBehind_3 jc_bp_8 ?_
  refine j_icmp_ge (tgt := 56) C dX11_emptyBehind_5 rfl hE (fun hE => ?_) (fun hE => ?_)
  · refine j_sub [] rfl ?_
    exact hk56  S hE
  · refine j_iload_n C dX11_emptyBehind_8 1 rfl ?_
    refine j_iload_n C dX11_emptyBehind_9 2 rfl ?_
    refine j_iadd C dX11_emptyBehind_10 ?_
    refine j_bipush (v := 8) C dX11_emptyBehind_11 jc_bp_8 ?_
    refine j_icmp_ge (tgt := 22) C dX11_emptyBehind_13 rfl hE (fun hE => ?_) (fun hE => ?_)
    · refine j_iload_n C dX11_emptyBehind_22 1 rfl ?_
      refine j_iload_n C dX11_emptyBehind_23 2 rfl ?_
      refine j_iadd C dX11_emptyBehind_24 ?_
      refine j_bipush (v := 8) C dX11_emptyBehind_25 jc_bp_8 ?_
      refine j_isub C dX11_emptyBehind_27 ?_
      exact p_X11_emptyBehind_28 C Q hg hk48 hk56 ((x1 + x2) - 8) x1 x2 S hE
    · refine j_iload_n C dX11_emptyBehind_16 1 rfl ?_
      refine j_iload_n C dX11_emptyBehind_17 2 rfl ?_
      refine j_iadd C dX11_emptyBehind_18 ?_
      refine j_goto (tgt := 28) C dX11_emptyBehind_19 rfl ?_
      exact p_X11_emptyBehind_28 C Q hg hk48 hk56 (x1 + x2) x1 x2 S hE
theorem q_X11_emptyBehind_2 {X : jX} {D : va_G} {ad : Nat → Nat} {cy : Nat → ClassId} (C : jC X (jMain D ad cy) RX11 cX11_emptyBehind (some .int) 4 1 20) {z : Int32 × jS} (Q : jRet X (jMain D ad cy) (some (.int z.1), z.2)) {k48 : Int32 → jS → Option (Int32 × jS)} (hk48 : ∀ (x3 : Int32) (S : jS), k48 x3 S = some z → jJ X (jMain D ad cy) 48 [(3, .int x3)] [] S) {k56 : jS → Option (Int32 × jS)} (hk56 : ∀  (S : jS), k56  S = some z → jJ X (jMain D ad cy) 56 [] [] S) (x1 : Int32) (x2 : Int32) (S : jS) (hE : lp_X11_emptyBehind_2  k48 k56 x1 x2 S = some z) : jJ X (jMain D ad cy) 2 [(0, .ref (ad 0)), (1, .int x1), (2, .int x2)] [] S :=
  jloop_P (α := Int32 × Int32 × jS) (B := (fun g q => f_X11_emptyBehind_2  (fun x1 x2 S => g (x1, x2, S)) k48 k56 q.1 q.2.1 q.2.2)) (P := fun q => jJ X (jMain D ad cy) 2 [(0, .ref (ad 0)), (1, .int q.1), (2, .int q.2.1)] [] q.2.2) (fun g q hg h => p_X11_emptyBehind_2 C Q (g := fun x1 x2 S => g (x1, x2, S)) (fun x1 x2 S h => hg (x1, x2, S) h) hk48 hk56 q.1 q.2.1 q.2.2 h) jN (x1, x2, S) hE
set_option maxRecDepth 100000 in
theorem p_X11_emptyBehind_48 {X : jX} {D : va_G} {ad : Nat → Nat} {cy : Nat → ClassId} (C : jC X (jMain D ad cy) RX11 cX11_emptyBehind (some .int) 4 1 20) {z : Int32 × jS} (Q : jRet X (jMain D ad cy) (some (.int z.1), z.2))  (x3 : Int32) (S : jS) (hE : f_X11_emptyBehind_48   x3 S = some z) : jJ X (jMain D ad cy) 48 [(3, .int x3)] [] S := by
  unfold f_X11_emptyBehind_48 at hE
  refine j_iload_n C dX11_emptyBehind_48 0 rfl ?_
  exact j_iret C Q dX11_emptyBehind_49 hE
set_option maxRecDepth 100000 in
theorem p_X11_emptyBehind_56 {X : jX} {D : va_G} {ad : Nat → Nat} {cy : Nat → ClassId} (C : jC X (jMain D ad cy) RX11 cX11_emptyBehind (some .int) 4 1 20) {z : Int32 × jS} (Q : jRet X (jMain D ad cy) (some (.int z.1), z.2))   (S : jS) (hE : f_X11_emptyBehind_56    S = some z) : jJ X (jMain D ad cy) 56 [] [] S := by
  unfold f_X11_emptyBehind_56 at hE
  refine j_iconst (v := (-1)) C dX11_emptyBehind_56 jc_ic_m1 ?_
  exact j_iret C Q dX11_emptyBehind_57 hE
set_option maxRecDepth 100000 in
theorem p_X11_emptyBehind_e {X : jX} {D : va_G} {ad : Nat → Nat} {cy : Nat → ClassId} (C : jC X (jMain D ad cy) RX11 cX11_emptyBehind (some .int) 4 1 20) {z : Int32 × jS} (Q : jRet X (jMain D ad cy) (some (.int z.1), z.2))  (x1 : Int32) (S : jS) (hE : f_X11_emptyBehind_e   x1 S = some z) : jJ X (jMain D ad cy) 0 [(0, .ref (ad 0)), (1, .int x1)] [] S := by
  unfold f_X11_emptyBehind_e at hE
  refine j_iconst (v := 1) C dX11_emptyBehind_0 jc_ic_1 ?_
  refine j_istore_n (i := 2) (lv' := [(2, .int 1), (0, .ref (ad 0)), (1, .int x1)]) C dX11_emptyBehind_1 rfl (by decide) rfl ?_
  refine j_sub [1, 2, 0] rfl ?_
  exact q_X11_emptyBehind_2 C Q (p_X11_emptyBehind_48 C Q ) (p_X11_emptyBehind_56 C Q ) x1 1 S hE
theorem c_X11_emptyBehind {l : Launch} {D : va_G} {ad : Nat → Nat} {cy : Nat → ClassId} (hO : jOk (jMain D ad cy)) (x1 : Int32) (S : jS) {z : Int32 × jS} (hz : f_X11_emptyBehind x1 S = some z) : Met l yX11_emptyBehind (.code yX11_emptyBehind cX11_emptyBehind 4 (some .int) :: jT) { frames := 1, cells := 0, slots := 0, locals := 20 } (va_Pc [.ref (ad 0), .int x1] (jInv (jMain D ad cy) S)) (jQ (jMain D ad cy) (some (.int z.1), z.2)) 0 0 (yA (jMain D ad cy)) :=
  jMet hO (by decide +kernel) rfl (Nat.le_of_ble_eq_true rfl) (fun X _ C Q => p_X11_emptyBehind_e C Q x1 S hz)
theorem k_X11_244_X11_emptyBehind {X : jX} {D : va_G} {ad : Nat → Nat} {cy : Nat → ClassId} {cc : ByteArray} {ret : Option FieldType} {nL fr lo pc : Nat} {lv : List (Nat × Value)} {st : List Value} {S : jS} {β : Type} {z : β} (C : jC X (jMain D ad cy) RX11 cc ret nL fr lo) {a0 : Int32} {E : Int32 → jS → Option β} (d : decode cc pc = .ok (.invokevirtual 244, 3)) (hE : jcl (f_X11_emptyBehind a0 S) E = some z) (hfr : 2 ≤ fr) (hlo : 43 ≤ lo) (hst : (st.map fun v => v.category).sum ≤ 8) (K : ∀ (v : Int32) (S1 : jS), E v S1 = some z → jJ X (jMain D ad cy) (pc + 3) lv (.int v :: st) S1) : jJ X (jMain D ad cy) pc lv (.int a0 :: .ref (ad 0) :: st) S := by
  obtain ⟨v, h1, h2⟩ := jcl_some hE
  exact j_callV (k := 0) (ci := 11) (T := TX11) (N := 16) (n := 1) (As := [.int a0]) C (c_X11_emptyBehind C.2.2.2.2.2.2.1 a0 S h1) tw_799 tw_801 tw_28 tw_69 tw_802 (by decide +kernel) rfl (by decide : 0 < 56) rfl rfl hfr hlo hst rfl d (K _ _ h2)
set_option maxRecDepth 100000 in
theorem p_X2_quarrelling_r38_39 {X : jX} {D : va_G} {ad : Nat → Nat} {cy : Nat → ClassId} (C : jC X (jMain D ad cy) RX2 cX2_quarrelling (some .int) 5 4 95) {z : Int32 × jS} (Q : jRet X (jMain D ad cy) (some (.int z.1), z.2)) {g : Int32 → Int32 → Int32 → jS → Option (Int32 × jS)} (hg : ∀ (x1 : Int32) (x3 : Int32) (x4 : Int32) (S : jS), g x1 x3 x4 S = some z → jJ X (jMain D ad cy) 5 [(0, .ref (ad 4)), (1, .int x1), (2, .ref (ad 38)), (3, .int x3), (4, .int x4)] [] S) {k45 : Int32 → jS → Option (Int32 × jS)} (hk45 : ∀ (x3 : Int32) (S : jS), k45 x3 S = some z → jJ X (jMain D ad cy) 45 [(3, .int x3)] [] S) (x1 : Int32) (x3 : Int32) (x4 : Int32) (S : jS) (hE : f_X2_quarrelling_r38_39  g k45 x1 x3 x4 S = some z) : jJ X (jMain D ad cy) 39 [(0, .ref (ad 4)), (1, .int x1), (2, .ref (ad 38)), (3, .int x3), (4, .int x4)] [] S := by
  unfold f_X2_quarrelling_r38_39 at hE
  refine j_iinc (v := (x4 + 1)) (lv' := [(4, .int (x4 + 1)), (0, .ref (ad 4)), (1, .int x1), (2, .ref (ad 38)), (3, .int x3)]) C dX2_quarrelling_39 4 rfl (congrArg (fun w => x4 + w) jc_ic_1) (by decide) rfl ?_
  refine j_goto (tgt := 5) C dX2_quarrelling_42 rfl ?_
  refine j_sub [1, 2, 3, 4, 0] rfl ?_
  exact hg x1 x3 (x4 + 1) S hE
set_option maxRecDepth 100000 in
theorem p_X2_quarrelling_r38_5 {X : jX} {D : va_G} {ad : Nat → Nat} {cy : Nat → ClassId} (C : jC X (jMain D ad cy) RX2 cX2_quarrelling (some .int) 5 4 95) {z : Int32 × jS} (Q : jRet X (jMain D ad cy) (some (.int z.1), z.2)) {g : Int32 → Int32 → Int32 → jS → Option (Int32 × jS)} (hg : ∀ (x1 : Int32) (x3 : Int32) (x4 : Int32) (S : jS), g x1 x3 x4 S = some z → jJ X (jMain D ad cy) 5 [(0, .ref (ad 4)), (1, .int x1), (2, .ref (ad 38)), (3, .int x3), (4, .int x4)] [] S) {k45 : Int32 → jS → Option (Int32 × jS)} (hk45 : ∀ (x3 : Int32) (S : jS), k45 x3 S = some z → jJ X (jMain D ad cy) 45 [(3, .int x3)] [] S) (x1 : Int32) (x3 : Int32) (x4 : Int32) (S : jS) (hE : f_X2_quarrelling_r38_5  g k45 x1 x3 x4 S = some z) : jJ X (jMain D ad cy) 5 [(0, .ref (ad 4)), (1, .int x1), (2, .ref (ad 38)), (3, .int x3), (4, .int x4)] [] S := by
  unfold f_X2_quarrelling_r38_5 at hE
  refine j_iload C dX2_quarrelling_5 4 rfl ?_
  refine j_iconst (v := 1) C dX2_quarrelling_7 jc_ic_1 ?_
  refine j_iadd C dX2_quarrelling_8 ?_
  refine j_aload_n C dX2_quarrelling_9 2 rfl ?_
  refine n_38 C dX2_quarrelling_10 ?_
  refine j_icmp_ge (tgt := 45) C dX2_quarrelling_11 rfl hE (fun hE => ?_) (fun hE => ?_)
  · refine j_sub [3] rfl ?_
    exact hk45 x3 S hE
  · refine j_aload_n C dX2_quarrelling_14 0 rfl ?_
    refine j_iload_n C dX2_quarrelling_15 1 rfl ?_
    refine j_aload_n C dX2_quarrelling_16 2 rfl ?_
    refine j_iload C dX2_quarrelling_17 4 rfl ?_
    refine l_38 C dX2_quarrelling_19 hE (fun v1 hE => ?_)
    refine j_aload_n C dX2_quarrelling_20 2 rfl ?_
    refine j_iload C dX2_quarrelling_21 4 rfl ?_
    refine j_iconst (v := 1) C dX2_quarrelling_23 jc_ic_1 ?_
    refine j_iadd C dX2_quarrelling_24 ?_
    refine l_38 C dX2_quarrelling_25 hE (fun v2 hE => ?_)
    refine k_X2_39_X2_allows C dX2_quarrelling_26 hE (Nat.le_of_ble_eq_true rfl) (Nat.le_of_ble_eq_true rfl) (Nat.le_of_ble_eq_true rfl) (fun v4 S3 hE => ?_)
    refine j_if_ne (tgt := 39) C dX2_quarrelling_29 rfl hE (fun hE => ?_) (fun hE => ?_)
    · exact p_X2_quarrelling_r38_39 C Q hg hk45 x1 x3 x4 S3 hE
    · refine j_iload_n C dX2_quarrelling_32 3 rfl ?_
      refine j_iconst (v := 1) C dX2_quarrelling_33 jc_ic_1 ?_
      refine j_iload C dX2_quarrelling_34 4 rfl ?_
      refine j_ishl C dX2_quarrelling_36 ?_
      refine j_ior C dX2_quarrelling_37 ?_
      refine j_istore_n (i := 3) (lv' := [(3, .int (x3 ||| (1 <<< (x4 &&& 31)))), (0, .ref (ad 4)), (1, .int x1), (2, .ref (ad 38)), (4, .int x4)]) C dX2_quarrelling_38 rfl (by decide) rfl ?_
      refine j_sub [1, 2, 3, 0, 4] rfl ?_
      exact p_X2_quarrelling_r38_39 C Q hg hk45 x1 (x3 ||| (1 <<< (x4 &&& 31))) x4 S3 hE
theorem q_X2_quarrelling_r38_5 {X : jX} {D : va_G} {ad : Nat → Nat} {cy : Nat → ClassId} (C : jC X (jMain D ad cy) RX2 cX2_quarrelling (some .int) 5 4 95) {z : Int32 × jS} (Q : jRet X (jMain D ad cy) (some (.int z.1), z.2)) {k45 : Int32 → jS → Option (Int32 × jS)} (hk45 : ∀ (x3 : Int32) (S : jS), k45 x3 S = some z → jJ X (jMain D ad cy) 45 [(3, .int x3)] [] S) (x1 : Int32) (x3 : Int32) (x4 : Int32) (S : jS) (hE : lp_X2_quarrelling_r38_5  k45 x1 x3 x4 S = some z) : jJ X (jMain D ad cy) 5 [(0, .ref (ad 4)), (1, .int x1), (2, .ref (ad 38)), (3, .int x3), (4, .int x4)] [] S :=
  jloop_P (α := Int32 × Int32 × Int32 × jS) (B := (fun g q => f_X2_quarrelling_r38_5  (fun x1 x3 x4 S => g (x1, x3, x4, S)) k45 q.1 q.2.1 q.2.2.1 q.2.2.2)) (P := fun q => jJ X (jMain D ad cy) 5 [(0, .ref (ad 4)), (1, .int q.1), (2, .ref (ad 38)), (3, .int q.2.1), (4, .int q.2.2.1)] [] q.2.2.2) (fun g q hg h => p_X2_quarrelling_r38_5 C Q (g := fun x1 x3 x4 S => g (x1, x3, x4, S)) (fun x1 x3 x4 S h => hg (x1, x3, x4, S) h) hk45 q.1 q.2.1 q.2.2.1 q.2.2.2 h) jN (x1, x3, x4, S) hE
set_option maxRecDepth 100000 in
theorem p_X2_quarrelling_r38_45 {X : jX} {D : va_G} {ad : Nat → Nat} {cy : Nat → ClassId} (C : jC X (jMain D ad cy) RX2 cX2_quarrelling (some .int) 5 4 95) {z : Int32 × jS} (Q : jRet X (jMain D ad cy) (some (.int z.1), z.2))  (x3 : Int32) (S : jS) (hE : f_X2_quarrelling_r38_45   x3 S = some z) : jJ X (jMain D ad cy) 45 [(3, .int x3)] [] S := by
  unfold f_X2_quarrelling_r38_45 at hE
  refine j_iload_n C dX2_quarrelling_45 0 rfl ?_
  exact j_iret C Q dX2_quarrelling_46 hE
set_option maxRecDepth 100000 in
theorem p_X2_quarrelling_r38_e {X : jX} {D : va_G} {ad : Nat → Nat} {cy : Nat → ClassId} (C : jC X (jMain D ad cy) RX2 cX2_quarrelling (some .int) 5 4 95) {z : Int32 × jS} (Q : jRet X (jMain D ad cy) (some (.int z.1), z.2))  (x1 : Int32) (S : jS) (hE : f_X2_quarrelling_r38_e   x1 S = some z) : jJ X (jMain D ad cy) 0 [(0, .ref (ad 4)), (1, .int x1), (2, .ref (ad 38))] [] S := by
  unfold f_X2_quarrelling_r38_e at hE
  refine j_iconst (v := 0) C dX2_quarrelling_0 jc_ic_0 ?_
  refine j_istore_n (i := 3) (lv' := [(3, .int 0), (0, .ref (ad 4)), (1, .int x1), (2, .ref (ad 38))]) C dX2_quarrelling_1 rfl (by decide) rfl ?_
  refine j_iconst (v := 0) C dX2_quarrelling_2 jc_ic_0 ?_
  refine j_istore (lv' := [(4, .int 0), (3, .int 0), (0, .ref (ad 4)), (1, .int x1), (2, .ref (ad 38))]) C dX2_quarrelling_3 (by decide) rfl ?_
  refine j_sub [2, 3, 4, 1, 0] rfl ?_
  exact q_X2_quarrelling_r38_5 C Q (p_X2_quarrelling_r38_45 C Q ) x1 0 0 S hE
theorem c_X2_quarrelling_r38 {l : Launch} {D : va_G} {ad : Nat → Nat} {cy : Nat → ClassId} (hO : jOk (jMain D ad cy)) (x1 : Int32) (S : jS) {z : Int32 × jS} (hz : f_X2_quarrelling_r38 x1 S = some z) : Met l yX2_quarrelling (.code yX2_quarrelling cX2_quarrelling 5 (some .int) :: jT) { frames := 4, cells := 0, slots := 0, locals := 95 } (va_Pc [.ref (ad 4), .int x1, .ref (ad 38)] (jInv (jMain D ad cy) S)) (jQ (jMain D ad cy) (some (.int z.1), z.2)) 0 0 (yA (jMain D ad cy)) :=
  jMet hO (by decide +kernel) rfl (Nat.le_of_ble_eq_true rfl) (fun X _ C Q => p_X2_quarrelling_r38_e C Q x1 S hz)
theorem k_X11_146_X2_quarrelling_r38 {X : jX} {D : va_G} {ad : Nat → Nat} {cy : Nat → ClassId} {cc : ByteArray} {ret : Option FieldType} {nL fr lo pc : Nat} {lv : List (Nat × Value)} {st : List Value} {S : jS} {β : Type} {z : β} (C : jC X (jMain D ad cy) RX11 cc ret nL fr lo) {a0 : Int32} {E : Int32 → jS → Option β} (d : decode cc pc = .ok (.invokevirtual 146, 3)) (hE : jcl (f_X2_quarrelling_r38 a0 S) E = some z) (hfr : 5 ≤ fr) (hlo : 119 ≤ lo) (hst : (st.map fun v => v.category).sum ≤ 8) (K : ∀ (v : Int32) (S1 : jS), E v S1 = some z → jJ X (jMain D ad cy) (pc + 3) lv (.int v :: st) S1) : jJ X (jMain D ad cy) pc lv (.ref (ad 38) :: .int a0 :: .ref (ad 4) :: st) S := by
  obtain ⟨v, h1, h2⟩ := jcl_some hE
  exact j_callV (k := 4) (ci := 2) (T := TX2) (N := 1) (n := 2) (As := [.int a0, .ref (ad 38)]) C (c_X2_quarrelling_r38 C.2.2.2.2.2.2.1 a0 S h1) tw_539 tw_540 tw_541 tw_71 tw_542 (by decide +kernel) rfl (by decide : 4 < 56) rfl rfl hfr hlo hst rfl d (K _ _ h2)
set_option maxRecDepth 100000 in
theorem p_X11_split_38 {X : jX} {D : va_G} {ad : Nat → Nat} {cy : Nat → ClassId} (C : jC X (jMain D ad cy) RX11 cX11_split (some .int) 4 5 119) {z : Int32 × jS} (Q : jRet X (jMain D ad cy) (some (.int z.1), z.2))   (S : jS) (hE : f_X11_split_38    S = some z) : jJ X (jMain D ad cy) 38 [] [] S := by
  unfold f_X11_split_38 at hE
  refine j_iconst (v := (-1)) C dX11_split_38 jc_ic_m1 ?_
  exact j_iret C Q dX11_split_39 hE
set_option maxRecDepth 100000 in
theorem p_X11_split_e {X : jX} {D : va_G} {ad : Nat → Nat} {cy : Nat → ClassId} (C : jC X (jMain D ad cy) RX11 cX11_split (some .int) 4 5 119) {z : Int32 × jS} (Q : jRet X (jMain D ad cy) (some (.int z.1), z.2))  (x1 : Int32) (S : jS) (hE : f_X11_split_e   x1 S = some z) : jJ X (jMain D ad cy) 0 [(0, .ref (ad 0)), (1, .int x1)] [] S := by
  unfold f_X11_split_e at hE
  refine j_iload_n C dX11_split_0 1 rfl ?_
  refine k_X11_92_X11_isHouse C dX11_split_1 hE (Nat.le_of_ble_eq_true rfl) (Nat.le_of_ble_eq_true rfl) (Nat.le_of_ble_eq_true rfl) (fun v2 S1 hE => ?_)
  refine j_if_ne (tgt := 12) C dX11_split_4 rfl hE (fun hE => ?_) (fun hE => ?_)
  · refine j_aload_n C dX11_split_12 0 rfl ?_
    refine g_X11_44_0 C dX11_split_13 ?_
    refine g_X11_96_21 C dX11_split_16 ?_
    refine j_iload_n C dX11_split_19 1 rfl ?_
    refine l_22 C dX11_split_20 hE (fun v3 hE => ?_)
    refine j_istore_n (i := 2) (lv' := [(2, .int v3), (0, .ref (ad 0)), (1, .int x1)]) C dX11_split_21 rfl (by decide) rfl ?_
    refine j_aload_n C dX11_split_22 1 rfl ?_
    refine j_iload_n C dX11_split_23 2 rfl ?_
    refine k_X11_244_X11_emptyBehind C dX11_split_24 hE (Nat.le_of_ble_eq_true rfl) (Nat.le_of_ble_eq_true rfl) (Nat.le_of_ble_eq_true rfl) (fun v5 S4 hE => ?_)
    refine j_istore_n (i := 3) (lv' := [(3, .int v5), (2, .int v3), (0, .ref (ad 0)), (1, .int x1)]) C dX11_split_27 rfl (by decide) rfl ?_
    refine j_iload_n C dX11_split_28 1 rfl ?_
    refine j_iconst (v := 2) C dX11_split_29 jc_ic_2 ?_
    refine j_icmp_lt (tgt := 38) C dX11_split_30 rfl hE (fun hE => ?_) (fun hE => ?_)
    · refine j_sub [] rfl ?_
      exact p_X11_split_38 C Q   S4 hE
    · refine j_iload_n C dX11_split_33 0 rfl ?_
      refine j_iconst (v := (-1)) C dX11_split_34 jc_ic_m1 ?_
      refine j_icmp_ne (tgt := 40) C dX11_split_35 rfl hE (fun hE => ?_) (fun hE => ?_)
      · refine j_aload_n C dX11_split_40 2 rfl ?_
        refine g_X11_44_0 C dX11_split_41 ?_
        refine g_X11_96_21 C dX11_split_44 ?_
        refine j_iconst (v := 0) C dX11_split_47 jc_ic_0 ?_
        refine j_aload_n C dX11_split_48 2 rfl ?_
        refine g_X11_56_0 C dX11_split_49 ?_
        refine j_iconst (v := 0) C dX11_split_52 jc_ic_0 ?_
        refine j_bipush (v := 8) C dX11_split_53 jc_bp_8 ?_
        refine y_X11_123_22_38 C dX11_split_55 (Nat.le_of_ble_eq_true rfl) (by decide) hE (fun S6 hE => ?_)
        refine j_aload_n C dX11_split_58 2 rfl ?_
        refine g_X11_56_0 C dX11_split_59 ?_
        refine j_iload_n C dX11_split_62 3 rfl ?_
        refine j_iload_n C dX11_split_63 1 rfl ?_
        refine j_iconst (v := 2) C dX11_split_64 jc_ic_2 ?_
        refine j_idiv C dX11_split_65 hE (fun v7 hE => ?_)
        refine s_38 C dX11_split_66 hE (fun S8 hE => ?_)
        refine j_aload_n C dX11_split_67 2 rfl ?_
        refine g_X11_56_0 C dX11_split_68 ?_
        refine j_iload_n C dX11_split_71 0 rfl ?_
        refine j_iload_n C dX11_split_72 1 rfl ?_
        refine j_iload_n C dX11_split_73 1 rfl ?_
        refine j_iconst (v := 2) C dX11_split_74 jc_ic_2 ?_
        refine j_idiv C dX11_split_75 hE (fun v9 hE => ?_)
        refine j_isub C dX11_split_76 ?_
        refine s_38 C dX11_split_77 hE (fun S10 hE => ?_)
        refine j_aload_n C dX11_split_78 2 rfl ?_
        refine g_X11_21_0 C dX11_split_79 ?_
        refine j_aload_n C dX11_split_82 2 rfl ?_
        refine g_X11_44_0 C dX11_split_83 ?_
        refine g_X11_85_21 C dX11_split_86 ?_
        refine j_aload_n C dX11_split_89 2 rfl ?_
        refine g_X11_56_0 C dX11_split_90 ?_
        refine k_X11_146_X2_quarrelling_r38 C dX11_split_93 hE (Nat.le_of_ble_eq_true rfl) (Nat.le_of_ble_eq_true rfl) (Nat.le_of_ble_eq_true rfl) (fun v12 S11 hE => ?_)
        refine k_X11_163_J6_bitCount_0f7a4 C dX11_split_96 hE (Nat.le_of_ble_eq_true rfl) (Nat.le_of_ble_eq_true rfl) (Nat.le_of_ble_eq_true rfl) (fun v14 S13 hE => ?_)
        exact j_iret C Q dX11_split_99 hE
      · refine j_sub [] rfl ?_
        exact p_X11_split_38 C Q   S4 hE
  · refine j_aload_n C dX11_split_7 0 rfl ?_
    refine k_X11_74_X11_refuseBad C dX11_split_8 hE (Nat.le_of_ble_eq_true rfl) (Nat.le_of_ble_eq_true rfl) (Nat.le_of_ble_eq_true rfl) (fun v16 S15 hE => ?_)
    exact j_iret C Q dX11_split_11 hE
theorem c_X11_split {l : Launch} {D : va_G} {ad : Nat → Nat} {cy : Nat → ClassId} (hO : jOk (jMain D ad cy)) (x1 : Int32) (S : jS) {z : Int32 × jS} (hz : f_X11_split x1 S = some z) : Met l yX11_split (.code yX11_split cX11_split 4 (some .int) :: jT) { frames := 5, cells := 0, slots := 0, locals := 119 } (va_Pc [.ref (ad 0), .int x1] (jInv (jMain D ad cy) S)) (jQ (jMain D ad cy) (some (.int z.1), z.2)) 0 0 (yA (jMain D ad cy)) :=
  jMet hO (by decide +kernel) rfl (Nat.le_of_ble_eq_true rfl) (fun X _ C Q => p_X11_split_e C Q x1 S hz)
set_option maxRecDepth 100000 in
theorem p_X12_fraction_6 {X : jX} {D : va_G} {ad : Nat → Nat} {cy : Nat → ClassId} (C : jC X (jMain D ad cy) RX12 cX12_fraction (none) 11 0 0) {z : jS} (Q : jRet X (jMain D ad cy) (none, z)) {g : Int64 → Int64 → Int64 → Int64 → jS → Option (jS)} (hg : ∀ (x1 : Int64) (x3 : Int64) (x5 : Int64) (x7 : Int64) (S : jS), g x1 x3 x5 x7 S = some z → jJ X (jMain D ad cy) 6 [(0, .ref (ad 41)), (1, .long x1), (3, .long x3), (5, .long x5), (7, .long x7)] [] S) {k31 : Int64 → Int64 → Int64 → jS → Option (jS)} (hk31 : ∀ (x1 : Int64) (x3 : Int64) (x5 : Int64) (S : jS), k31 x1 x3 x5 S = some z → jJ X (jMain D ad cy) 31 [(0, .ref (ad 41)), (1, .long x1), (3, .long x3), (5, .long x5)] [] S) (x1 : Int64) (x3 : Int64) (x5 : Int64) (x7 : Int64) (S : jS) (hE : f_X12_fraction_6  g k31 x1 x3 x5 x7 S = some z) : jJ X (jMain D ad cy) 6 [(0, .ref (ad 41)), (1, .long x1), (3, .long x3), (5, .long x5), (7, .long x7)] [] S := by
  unfold f_X12_fraction_6 at hE
  refine j_lload C dX12_fraction_6 4 rfl ?_
  refine j_lconst (v := 0) C dX12_fraction_8 jc_lc_0 ?_
  refine j_lcmp C dX12_fraction_9 ?_
  refine j_if_eq (tgt := 31) C dX12_fraction_10 rfl hE (fun hE => ?_) (fun hE => ?_)
  · refine j_sub [0, 1, 2, 3] rfl ?_
    exact hk31 x1 x3 x5 S hE
  · refine j_lload C dX12_fraction_13 3 rfl ?_
    refine j_lload C dX12_fraction_15 4 rfl ?_
    refine j_lrem C dX12_fraction_17 hE (fun v1 hE => ?_)
    refine j_lstore (lv' := [(9, .long v1), (0, .ref (ad 41)), (1, .long x1), (3, .long x3), (5, .long x5), (7, .long x7)]) C dX12_fraction_18 (by decide) rfl ?_
    refine j_lload C dX12_fraction_20 5 rfl ?_
    refine j_lstore (lv' := [(5, .long x7), (9, .long v1), (0, .ref (ad 41)), (1, .long x1), (3, .long x3), (7, .long x7)]) C dX12_fraction_22 (by decide) rfl ?_
    refine j_lload C dX12_fraction_24 1 rfl ?_
    refine j_lstore (lv' := [(7, .long v1), (5, .long x7), (9, .long v1), (0, .ref (ad 41)), (1, .long x1), (3, .long x3)]) C dX12_fraction_26 (by decide) rfl ?_
    refine j_goto (tgt := 6) C dX12_fraction_28 rfl ?_
    refine j_sub [3, 4, 5, 1, 0] rfl ?_
    exact hg x1 x3 x7 v1 S hE
theorem q_X12_fraction_6 {X : jX} {D : va_G} {ad : Nat → Nat} {cy : Nat → ClassId} (C : jC X (jMain D ad cy) RX12 cX12_fraction (none) 11 0 0) {z : jS} (Q : jRet X (jMain D ad cy) (none, z)) {k31 : Int64 → Int64 → Int64 → jS → Option (jS)} (hk31 : ∀ (x1 : Int64) (x3 : Int64) (x5 : Int64) (S : jS), k31 x1 x3 x5 S = some z → jJ X (jMain D ad cy) 31 [(0, .ref (ad 41)), (1, .long x1), (3, .long x3), (5, .long x5)] [] S) (x1 : Int64) (x3 : Int64) (x5 : Int64) (x7 : Int64) (S : jS) (hE : lp_X12_fraction_6  k31 x1 x3 x5 x7 S = some z) : jJ X (jMain D ad cy) 6 [(0, .ref (ad 41)), (1, .long x1), (3, .long x3), (5, .long x5), (7, .long x7)] [] S :=
  jloop_P (α := Int64 × Int64 × Int64 × Int64 × jS) (B := (fun g q => f_X12_fraction_6  (fun x1 x3 x5 x7 S => g (x1, x3, x5, x7, S)) k31 q.1 q.2.1 q.2.2.1 q.2.2.2.1 q.2.2.2.2)) (P := fun q => jJ X (jMain D ad cy) 6 [(0, .ref (ad 41)), (1, .long q.1), (3, .long q.2.1), (5, .long q.2.2.1), (7, .long q.2.2.2.1)] [] q.2.2.2.2) (fun g q hg h => p_X12_fraction_6 C Q (g := fun x1 x3 x5 x7 S => g (x1, x3, x5, x7, S)) (fun x1 x3 x5 x7 S h => hg (x1, x3, x5, x7, S) h) hk31 q.1 q.2.1 q.2.2.1 q.2.2.2.1 q.2.2.2.2 h) jN (x1, x3, x5, x7, S) hE
set_option maxRecDepth 100000 in
theorem p_X12_fraction_31 {X : jX} {D : va_G} {ad : Nat → Nat} {cy : Nat → ClassId} (C : jC X (jMain D ad cy) RX12 cX12_fraction (none) 11 0 0) {z : jS} (Q : jRet X (jMain D ad cy) (none, z))  (x1 : Int64) (x3 : Int64) (x5 : Int64) (S : jS) (hE : f_X12_fraction_31   x1 x3 x5 S = some z) : jJ X (jMain D ad cy) 31 [(0, .ref (ad 41)), (1, .long x1), (3, .long x3), (5, .long x5)] [] S := by
  unfold f_X12_fraction_31 at hE
  refine j_aload_n C dX12_fraction_31 0 rfl ?_
  refine j_lload_n C dX12_fraction_32 1 rfl ?_
  refine j_lload C dX12_fraction_33 3 rfl ?_
  refine j_ldiv C dX12_fraction_35 hE (fun v1 hE => ?_)
  refine p_X12_207_41 C dX12_fraction_36 hE (fun S2 hE => ?_)
  refine j_aload_n C dX12_fraction_39 0 rfl ?_
  refine j_lload_n C dX12_fraction_40 2 rfl ?_
  refine j_lload C dX12_fraction_41 3 rfl ?_
  refine j_ldiv C dX12_fraction_43 hE (fun v3 hE => ?_)
  refine p_X12_26_41 C dX12_fraction_44 hE (fun S4 hE => ?_)
  exact j_vret C Q dX12_fraction_47 hE
set_option maxRecDepth 100000 in
theorem p_X12_fraction_e {X : jX} {D : va_G} {ad : Nat → Nat} {cy : Nat → ClassId} (C : jC X (jMain D ad cy) RX12 cX12_fraction (none) 11 0 0) {z : jS} (Q : jRet X (jMain D ad cy) (none, z))  (x1 : Int64) (x3 : Int64) (S : jS) (hE : f_X12_fraction_e   x1 x3 S = some z) : jJ X (jMain D ad cy) 0 [(0, .ref (ad 41)), (1, .long x1), (3, .long x3)] [] S := by
  unfold f_X12_fraction_e at hE
  refine j_lload_n C dX12_fraction_0 1 rfl ?_
  refine j_lstore (lv' := [(5, .long x1), (0, .ref (ad 41)), (1, .long x1), (3, .long x3)]) C dX12_fraction_1 (by decide) rfl ?_
  refine j_lload_n C dX12_fraction_3 3 rfl ?_
  refine j_lstore (lv' := [(7, .long x3), (5, .long x1), (0, .ref (ad 41)), (1, .long x1), (3, .long x3)]) C dX12_fraction_4 (by decide) rfl ?_
  refine j_sub [2, 3, 4, 1, 0] rfl ?_
  exact q_X12_fraction_6 C Q (p_X12_fraction_31 C Q ) x1 x3 x1 x3 S hE
theorem c_X12_fraction {l : Launch} {D : va_G} {ad : Nat → Nat} {cy : Nat → ClassId} (hO : jOk (jMain D ad cy)) (x1 : Int64) (x3 : Int64) (S : jS) {z : jS} (hz : f_X12_fraction x1 x3 S = some z) : Met l yX12_fraction (.code yX12_fraction cX12_fraction 11 (none) :: jT) { frames := 0, cells := 0, slots := 0, locals := 0 } (va_Pc [.ref (ad 41), .long x1, .long x3] (jInv (jMain D ad cy) S)) (jQ (jMain D ad cy) (none, z)) 0 0 (yA (jMain D ad cy)) :=
  jMet hO (by decide +kernel) rfl (Nat.le_of_ble_eq_true rfl) (fun X _ C Q => p_X12_fraction_e C Q x1 x3 S hz)
theorem k_X12_212_X12_fraction {X : jX} {D : va_G} {ad : Nat → Nat} {cy : Nat → ClassId} {cc : ByteArray} {ret : Option FieldType} {nL fr lo pc : Nat} {lv : List (Nat × Value)} {st : List Value} {S : jS} {β : Type} {z : β} (C : jC X (jMain D ad cy) RX12 cc ret nL fr lo) {a0 : Int64} {a1 : Int64} {E : jS → Option β} (d : decode cc pc = .ok (.invokevirtual 212, 3)) (hE : jcv (f_X12_fraction a0 a1 S) E = some z) (hfr : 1 ≤ fr) (hlo : 30 ≤ lo) (hst : (st.map fun v => v.category).sum ≤ 8) (K : ∀ S1, E S1 = some z → jJ X (jMain D ad cy) (pc + 3) lv st S1) : jJ X (jMain D ad cy) pc lv (.long a1 :: .long a0 :: .ref (ad 41) :: st) S := by
  obtain ⟨v, h1, h2⟩ := jcv_some hE
  exact j_callV (k := 41) (ci := 12) (T := TX12) (N := 25) (n := 2) (As := [.long a0, .long a1]) C (c_X12_fraction C.2.2.2.2.2.2.1 a0 a1 S h1) tw_1199 tw_1201 tw_60 tw_81 tw_1202 (by decide +kernel) rfl (by decide : 41 < 56) rfl rfl hfr hlo hst rfl d (K _ h2)
set_option maxRecDepth 100000 in
theorem p_X12_odds_32 {X : jX} {D : va_G} {ad : Nat → Nat} {cy : Nat → ClassId} (C : jC X (jMain D ad cy) RX12 cX12_odds (some .int) 12 5 113) {z : Int32 × jS} (Q : jRet X (jMain D ad cy) (some (.int z.1), z.2)) {g : Int32 → Int32 → Int64 → Int64 → Int32 → jS → Option (Int32 × jS)} (hg : ∀ (x1 : Int32) (x2 : Int32) (x3 : Int64) (x5 : Int64) (x7 : Int32) (S : jS), g x1 x2 x3 x5 x7 S = some z → jJ X (jMain D ad cy) 32 [(0, .ref (ad 41)), (1, .int x1), (2, .int x2), (3, .long x3), (5, .long x5), (7, .int x7)] [] S) {k55 : Int32 → Int32 → Int64 → Int64 → jS → Option (Int32 × jS)} (hk55 : ∀ (x1 : Int32) (x2 : Int32) (x3 : Int64) (x5 : Int64) (S : jS), k55 x1 x2 x3 x5 S = some z → jJ X (jMain D ad cy) 55 [(0, .ref (ad 41)), (1, .int x1), (2, .int x2), (3, .long x3), (5, .long x5)] [] S) (x1 : Int32) (x2 : Int32) (x3 : Int64) (x5 : Int64) (x7 : Int32) (S : jS) (hE : f_X12_odds_32  g k55 x1 x2 x3 x5 x7 S = some z) : jJ X (jMain D ad cy) 32 [(0, .ref (ad 41)), (1, .int x1), (2, .int x2), (3, .long x3), (5, .long x5), (7, .int x7)] [] S := by
  unfold f_X12_odds_32 at hE
  refine j_iload C dX12_odds_32 5 rfl ?_
  refine j_iload_n C dX12_odds_34 2 rfl ?_
  refine k_X12_95_X12_bits C dX12_odds_35 hE (Nat.le_of_ble_eq_true rfl) (Nat.le_of_ble_eq_true rfl) (Nat.le_of_ble_eq_true rfl) (fun v2 S1 hE => ?_)
  refine j_icmp_ge (tgt := 55) C dX12_odds_38 rfl hE (fun hE => ?_) (fun hE => ?_)
  · refine j_sub [0, 1, 2, 3, 4] rfl ?_
    exact hk55 x1 x2 x3 x5 S1 hE
  · refine j_lload C dX12_odds_41 4 rfl ?_
    refine j_ldc2 (v := 10) C dX12_odds_43 tw_1198 ?_
    refine j_lmul C dX12_odds_46 ?_
    refine j_lstore (lv' := [(5, .long (x5 * 10)), (0, .ref (ad 41)), (1, .int x1), (2, .int x2), (3, .long x3), (7, .int x7)]) C dX12_odds_47 (by decide) rfl ?_
    refine j_iinc (v := (x7 + 1)) (lv' := [(7, .int (x7 + 1)), (5, .long (x5 * 10)), (0, .ref (ad 41)), (1, .int x1), (2, .int x2), (3, .long x3)]) C dX12_odds_49 5 rfl (congrArg (fun w => x7 + w) jc_ic_1) (by decide) rfl ?_
    refine j_goto (tgt := 32) C dX12_odds_52 rfl ?_
    refine j_sub [2, 3, 4, 5, 1, 0] rfl ?_
    exact hg x1 x2 x3 (x5 * 10) (x7 + 1) S1 hE
theorem q_X12_odds_32 {X : jX} {D : va_G} {ad : Nat → Nat} {cy : Nat → ClassId} (C : jC X (jMain D ad cy) RX12 cX12_odds (some .int) 12 5 113) {z : Int32 × jS} (Q : jRet X (jMain D ad cy) (some (.int z.1), z.2)) {k55 : Int32 → Int32 → Int64 → Int64 → jS → Option (Int32 × jS)} (hk55 : ∀ (x1 : Int32) (x2 : Int32) (x3 : Int64) (x5 : Int64) (S : jS), k55 x1 x2 x3 x5 S = some z → jJ X (jMain D ad cy) 55 [(0, .ref (ad 41)), (1, .int x1), (2, .int x2), (3, .long x3), (5, .long x5)] [] S) (x1 : Int32) (x2 : Int32) (x3 : Int64) (x5 : Int64) (x7 : Int32) (S : jS) (hE : lp_X12_odds_32  k55 x1 x2 x3 x5 x7 S = some z) : jJ X (jMain D ad cy) 32 [(0, .ref (ad 41)), (1, .int x1), (2, .int x2), (3, .long x3), (5, .long x5), (7, .int x7)] [] S :=
  jloop_P (α := Int32 × Int32 × Int64 × Int64 × Int32 × jS) (B := (fun g q => f_X12_odds_32  (fun x1 x2 x3 x5 x7 S => g (x1, x2, x3, x5, x7, S)) k55 q.1 q.2.1 q.2.2.1 q.2.2.2.1 q.2.2.2.2.1 q.2.2.2.2.2)) (P := fun q => jJ X (jMain D ad cy) 32 [(0, .ref (ad 41)), (1, .int q.1), (2, .int q.2.1), (3, .long q.2.2.1), (5, .long q.2.2.2.1), (7, .int q.2.2.2.2.1)] [] q.2.2.2.2.2) (fun g q hg h => p_X12_odds_32 C Q (g := fun x1 x2 x3 x5 x7 S => g (x1, x2, x3, x5, x7, S)) (fun x1 x2 x3 x5 x7 S h => hg (x1, x2, x3, x5, x7, S) h) hk55 q.1 q.2.1 q.2.2.1 q.2.2.2.1 q.2.2.2.2.1 q.2.2.2.2.2 h) jN (x1, x2, x3, x5, x7, S) hE
set_option maxRecDepth 100000 in
theorem p_X12_odds_206 {X : jX} {D : va_G} {ad : Nat → Nat} {cy : Nat → ClassId} (C : jC X (jMain D ad cy) RX12 cX12_odds (some .int) 12 5 113) {z : Int32 × jS} (Q : jRet X (jMain D ad cy) (some (.int z.1), z.2)) {g : Int32 → Int32 → Int64 → Int64 → Int32 → jS → Option (Int32 × jS)} (hg : ∀ (x1 : Int32) (x2 : Int32) (x3 : Int64) (x5 : Int64) (x7 : Int32) (S : jS), g x1 x2 x3 x5 x7 S = some z → jJ X (jMain D ad cy) 58 [(0, .ref (ad 41)), (1, .int x1), (2, .int x2), (3, .long x3), (5, .long x5), (7, .int x7)] [] S) {k212 : Int64 → Int64 → jS → Option (Int32 × jS)} (hk212 : ∀ (x3 : Int64) (x5 : Int64) (S : jS), k212 x3 x5 S = some z → jJ X (jMain D ad cy) 212 [(0, .ref (ad 41)), (3, .long x3), (5, .long x5)] [] S) (x1 : Int32) (x2 : Int32) (x3 : Int64) (x5 : Int64) (x7 : Int32) (S : jS) (hE : f_X12_odds_206  g k212 x1 x2 x3 x5 x7 S = some z) : jJ X (jMain D ad cy) 206 [(0, .ref (ad 41)), (1, .int x1), (2, .int x2), (3, .long x3), (5, .long x5), (7, .int x7)] [] S := by
  unfold f_X12_odds_206 at hE
  refine j_iinc (v := (x7 + 1)) (lv' := [(7, .int (x7 + 1)), (0, .ref (ad 41)), (1, .int x1), (2, .int x2), (3, .long x3), (5, .long x5)]) C dX12_odds_206 5 rfl (congrArg (fun w => x7 + w) jc_ic_1) (by decide) rfl ?_
  refine j_goto (tgt := 58) C dX12_odds_209 rfl ?_
  refine j_sub [1, 2, 3, 4, 5, 0] rfl ?_
  exact hg x1 x2 x3 x5 (x7 + 1) S hE
set_option maxRecDepth 100000 in
theorem p_X12_odds_183 {X : jX} {D : va_G} {ad : Nat → Nat} {cy : Nat → ClassId} (C : jC X (jMain D ad cy) RX12 cX12_odds (some .int) 12 5 113) {z : Int32 × jS} (Q : jRet X (jMain D ad cy) (some (.int z.1), z.2)) {g : Int32 → Int32 → Int64 → Int64 → Int32 → Int64 → Int32 → jS → Option (Int32 × jS)} (hg : ∀ (x1 : Int32) (x2 : Int32) (x3 : Int64) (x5 : Int64) (x7 : Int32) (x8 : Int64) (x10 : Int32) (S : jS), g x1 x2 x3 x5 x7 x8 x10 S = some z → jJ X (jMain D ad cy) 81 [(0, .ref (ad 41)), (1, .int x1), (2, .int x2), (3, .long x3), (5, .long x5), (7, .int x7), (8, .long x8), (10, .int x10)] [] S) {k190 : Int32 → Int32 → Int64 → Int64 → Int32 → Int64 → jS → Option (Int32 × jS)} (hk190 : ∀ (x1 : Int32) (x2 : Int32) (x3 : Int64) (x5 : Int64) (x7 : Int32) (x8 : Int64) (S : jS), k190 x1 x2 x3 x5 x7 x8 S = some z → jJ X (jMain D ad cy) 190 [(0, .ref (ad 41)), (1, .int x1), (2, .int x2), (3, .long x3), (5, .long x5), (7, .int x7), (8, .long x8)] [] S) (a0 : Int32) (a1 : Int32) (x1 : Int32) (x2 : Int32) (x3 : Int64) (x5 : Int64) (x7 : Int32) (x8 : Int64) (x10 : Int32) (S : jS) (hE : f_X12_odds_183  g k190 a0 a1 x1 x2 x3 x5 x7 x8 x10 S = some z) : jJ X (jMain D ad cy) 183 [(0, .ref (ad 41)), (1, .int x1), (2, .int x2), (3, .long x3), (5, .long x5), (7, .int x7), (8, .long x8), (10, .int x10)] [.int a0, .int a1, .ref (ad 47)] S := by
  unfold f_X12_odds_183 at hE
  refine s_47 C dX12_odds_183 hE (fun S1 hE => ?_)
  refine j_iinc (v := (x10 + 1)) (lv' := [(10, .int (x10 + 1)), (0, .ref (ad 41)), (1, .int x1), (2, .int x2), (3, .long x3), (5, .long x5), (7, .int x7), (8, .long x8)]) C dX12_odds_184 7 rfl (congrArg (fun w => x10 + w) jc_ic_1) (by decide) rfl ?_
  refine j_goto (tgt := 81) C dX12_odds_187 rfl ?_
  refine j_sub [1, 2, 3, 4, 5, 6, 7, 0] rfl ?_
  exact hg x1 x2 x3 x5 x7 x8 (x10 + 1) S1 hE
set_option maxRecDepth 100000 in
theorem p_X12_odds_176 {X : jX} {D : va_G} {ad : Nat → Nat} {cy : Nat → ClassId} (C : jC X (jMain D ad cy) RX12 cX12_odds (some .int) 12 5 113) {z : Int32 × jS} (Q : jRet X (jMain D ad cy) (some (.int z.1), z.2)) {g : Int32 → Int32 → Int64 → Int64 → Int32 → Int64 → Int32 → jS → Option (Int32 × jS)} (hg : ∀ (x1 : Int32) (x2 : Int32) (x3 : Int64) (x5 : Int64) (x7 : Int32) (x8 : Int64) (x10 : Int32) (S : jS), g x1 x2 x3 x5 x7 x8 x10 S = some z → jJ X (jMain D ad cy) 81 [(0, .ref (ad 41)), (1, .int x1), (2, .int x2), (3, .long x3), (5, .long x5), (7, .int x7), (8, .long x8), (10, .int x10)] [] S) {k190 : Int32 → Int32 → Int64 → Int64 → Int32 → Int64 → jS → Option (Int32 × jS)} (hk190 : ∀ (x1 : Int32) (x2 : Int32) (x3 : Int64) (x5 : Int64) (x7 : Int32) (x8 : Int64) (S : jS), k190 x1 x2 x3 x5 x7 x8 S = some z → jJ X (jMain D ad cy) 190 [(0, .ref (ad 41)), (1, .int x1), (2, .int x2), (3, .long x3), (5, .long x5), (7, .int x7), (8, .long x8)] [] S) (a0 : Int32) (x1 : Int32) (x2 : Int32) (x3 : Int64) (x5 : Int64) (x7 : Int32) (x8 : Int64) (x10 : Int32) (S : jS) (hE : f_X12_odds_176  g k190 a0 x1 x2 x3 x5 x7 x8 x10 S = some z) : jJ X (jMain D ad cy) 176 [(0, .ref (ad 41)), (1, .int x1), (2, .int x2), (3, .long x3), (5, .long x5), (7, .int x7), (8, .long x8), (10, .int x10)] [.int a0, .ref (ad 47)] S := by
  unfold f_X12_odds_176 at hE
  refine j_aload_n C dX12_odds_176 0 rfl ?_
  refine g_X12_7_41 C dX12_odds_177 ?_
  refine j_iload C dX12_odds_180 7 rfl ?_
  refine l_42 C dX12_odds_182 hE (fun v1 hE => ?_)
  exact p_X12_odds_183 C Q hg hk190 v1 a0 x1 x2 x3 x5 x7 x8 x10 S hE
set_option maxRecDepth 100000 in
theorem p_X12_odds_137 {X : jX} {D : va_G} {ad : Nat → Nat} {cy : Nat → ClassId} (C : jC X (jMain D ad cy) RX12 cX12_odds (some .int) 12 5 113) {z : Int32 × jS} (Q : jRet X (jMain D ad cy) (some (.int z.1), z.2)) {g : Int32 → Int32 → Int64 → Int64 → Int32 → Int64 → Int32 → jS → Option (Int32 × jS)} (hg : ∀ (x1 : Int32) (x2 : Int32) (x3 : Int64) (x5 : Int64) (x7 : Int32) (x8 : Int64) (x10 : Int32) (S : jS), g x1 x2 x3 x5 x7 x8 x10 S = some z → jJ X (jMain D ad cy) 81 [(0, .ref (ad 41)), (1, .int x1), (2, .int x2), (3, .long x3), (5, .long x5), (7, .int x7), (8, .long x8), (10, .int x10)] [] S) {k190 : Int32 → Int32 → Int64 → Int64 → Int32 → Int64 → jS → Option (Int32 × jS)} (hk190 : ∀ (x1 : Int32) (x2 : Int32) (x3 : Int64) (x5 : Int64) (x7 : Int32) (x8 : Int64) (S : jS), k190 x1 x2 x3 x5 x7 x8 S = some z → jJ X (jMain D ad cy) 190 [(0, .ref (ad 41)), (1, .int x1), (2, .int x2), (3, .long x3), (5, .long x5), (7, .int x7), (8, .long x8)] [] S) (a0 : Int64) (a1 : Int64) (x1 : Int32) (x2 : Int32) (x3 : Int64) (x5 : Int64) (x7 : Int32) (x10 : Int32) (x11 : Int32) (S : jS) (hE : f_X12_odds_137  g k190 a0 a1 x1 x2 x3 x5 x7 x10 x11 S = some z) : jJ X (jMain D ad cy) 137 [(0, .ref (ad 41)), (1, .int x1), (2, .int x2), (3, .long x3), (5, .long x5), (7, .int x7), (10, .int x10), (11, .int x11)] [.long a0, .long a1] S := by
  unfold f_X12_odds_137 at hE
  refine j_lmul C dX12_odds_137 ?_
  refine j_lstore (lv' := [(8, .long (a1 * a0)), (0, .ref (ad 41)), (1, .int x1), (2, .int x2), (3, .long x3), (5, .long x5), (7, .int x7), (10, .int x10), (11, .int x11)]) C dX12_odds_138 (by decide) rfl ?_
  refine j_aload_n C dX12_odds_140 1 rfl ?_
  refine g_X12_30_41 C dX12_odds_141 ?_
  refine j_iload C dX12_odds_144 7 rfl ?_
  refine j_iload C dX12_odds_146 8 rfl ?_
  refine j_if_eq (tgt := 176) C dX12_odds_148 rfl hE (fun hE => ?_) (fun hE => ?_)
  · refine j_sub [1, 2, 3, 4, 5, 6, 0, 7] rfl ?_
    exact p_X12_odds_176 C Q hg hk190 x10 x1 x2 x3 x5 x7 (a1 * a0) x10 S hE
  · refine j_aload_n C dX12_odds_151 1 rfl ?_
    refine g_X12_7_41 C dX12_odds_152 ?_
    refine j_iload C dX12_odds_155 7 rfl ?_
    refine l_42 C dX12_odds_157 hE (fun v1 hE => ?_)
    refine j_sipush (v := 300) C dX12_odds_158 jc_sp_300 ?_
    refine j_icmp_ge (tgt := 176) C dX12_odds_161 rfl hE (fun hE => ?_) (fun hE => ?_)
    · refine j_sub [1, 2, 3, 4, 5, 6, 0, 7] rfl ?_
      exact p_X12_odds_176 C Q hg hk190 x10 x1 x2 x3 x5 x7 (a1 * a0) x10 S hE
    · refine j_aload_n C dX12_odds_164 1 rfl ?_
      refine g_X12_7_41 C dX12_odds_165 ?_
      refine j_iload C dX12_odds_168 7 rfl ?_
      refine l_42 C dX12_odds_170 hE (fun v2 hE => ?_)
      refine j_iconst (v := 1) C dX12_odds_171 jc_ic_1 ?_
      refine j_iadd C dX12_odds_172 ?_
      refine j_goto (tgt := 183) C dX12_odds_173 rfl ?_
      refine j_sub [1, 2, 3, 4, 5, 6, 0, 7] rfl ?_
      exact p_X12_odds_183 C Q hg hk190 (v2 + 1) x10 x1 x2 x3 x5 x7 (a1 * a0) x10 S hE
set_option maxRecDepth 100000 in
theorem p_X12_odds_104 {X : jX} {D : va_G} {ad : Nat → Nat} {cy : Nat → ClassId} (C : jC X (jMain D ad cy) RX12 cX12_odds (some .int) 12 5 113) {z : Int32 × jS} (Q : jRet X (jMain D ad cy) (some (.int z.1), z.2)) {g : Int32 → Int32 → Int64 → Int64 → Int32 → Int64 → Int32 → jS → Option (Int32 × jS)} (hg : ∀ (x1 : Int32) (x2 : Int32) (x3 : Int64) (x5 : Int64) (x7 : Int32) (x8 : Int64) (x10 : Int32) (S : jS), g x1 x2 x3 x5 x7 x8 x10 S = some z → jJ X (jMain D ad cy) 81 [(0, .ref (ad 41)), (1, .int x1), (2, .int x2), (3, .long x3), (5, .long x5), (7, .int x7), (8, .long x8), (10, .int x10)] [] S) {k190 : Int32 → Int32 → Int64 → Int64 → Int32 → Int64 → jS → Option (Int32 × jS)} (hk190 : ∀ (x1 : Int32) (x2 : Int32) (x3 : Int64) (x5 : Int64) (x7 : Int32) (x8 : Int64) (S : jS), k190 x1 x2 x3 x5 x7 x8 S = some z → jJ X (jMain D ad cy) 190 [(0, .ref (ad 41)), (1, .int x1), (2, .int x2), (3, .long x3), (5, .long x5), (7, .int x7), (8, .long x8)] [] S) (a0 : Int32) (x1 : Int32) (x2 : Int32) (x3 : Int64) (x5 : Int64) (x7 : Int32) (x8 : Int64) (x10 : Int32) (S : jS) (hE : f_X12_odds_104  g k190 a0 x1 x2 x3 x5 x7 x8 x10 S = some z) : jJ X (jMain D ad cy) 104 [(0, .ref (ad 41)), (1, .int x1), (2, .int x2), (3, .long x3), (5, .long x5), (7, .int x7), (8, .long x8), (10, .int x10)] [.int a0] S := by
  unfold f_X12_odds_104 at hE
  refine j_istore (lv' := [(11, .int a0), (0, .ref (ad 41)), (1, .int x1), (2, .int x2), (3, .long x3), (5, .long x5), (7, .int x7), (8, .long x8), (10, .int x10)]) C dX12_odds_104 (by decide) rfl ?_
  refine j_lload C dX12_odds_106 7 rfl ?_
  refine j_aload_n C dX12_odds_108 1 rfl ?_
  refine g_X12_7_41 C dX12_odds_109 ?_
  refine j_iload C dX12_odds_112 8 rfl ?_
  refine l_42 C dX12_odds_114 hE (fun v1 hE => ?_)
  refine j_if_ne (tgt := 122) C dX12_odds_115 rfl hE (fun hE => ?_) (fun hE => ?_)
  · refine j_iload C dX12_odds_122 0 rfl ?_
    refine j_if_eq (tgt := 132) C dX12_odds_124 rfl hE (fun hE => ?_) (fun hE => ?_)
    · refine j_bipush (v := 10) C dX12_odds_132 jc_bp_10 ?_
      refine j_iload_n C dX12_odds_134 2 rfl ?_
      refine j_isub C dX12_odds_135 ?_
      refine j_i2l C dX12_odds_136 ?_
      refine j_sub [1, 2, 3, 4, 5, 6, 8, 0] rfl ?_
      exact p_X12_odds_137 C Q hg hk190 (((10 - x1) : Int32).toInt64) x8 x1 x2 x3 x5 x7 x10 a0 S hE
    · refine j_iload_n C dX12_odds_127 2 rfl ?_
      refine j_i2l C dX12_odds_128 ?_
      refine j_goto (tgt := 137) C dX12_odds_129 rfl ?_
      refine j_sub [1, 2, 3, 4, 5, 6, 8, 0] rfl ?_
      exact p_X12_odds_137 C Q hg hk190 x1.toInt64 x8 x1 x2 x3 x5 x7 x10 a0 S hE
  · refine j_lconst (v := 1) C dX12_odds_118 jc_lc_1 ?_
    refine j_goto (tgt := 137) C dX12_odds_119 rfl ?_
    refine j_sub [1, 2, 3, 4, 5, 6, 8, 0] rfl ?_
    exact p_X12_odds_137 C Q hg hk190 1 x8 x1 x2 x3 x5 x7 x10 a0 S hE
set_option maxRecDepth 100000 in
theorem p_X12_odds_81 {X : jX} {D : va_G} {ad : Nat → Nat} {cy : Nat → ClassId} (C : jC X (jMain D ad cy) RX12 cX12_odds (some .int) 12 5 113) {z : Int32 × jS} (Q : jRet X (jMain D ad cy) (some (.int z.1), z.2)) {g : Int32 → Int32 → Int64 → Int64 → Int32 → Int64 → Int32 → jS → Option (Int32 × jS)} (hg : ∀ (x1 : Int32) (x2 : Int32) (x3 : Int64) (x5 : Int64) (x7 : Int32) (x8 : Int64) (x10 : Int32) (S : jS), g x1 x2 x3 x5 x7 x8 x10 S = some z → jJ X (jMain D ad cy) 81 [(0, .ref (ad 41)), (1, .int x1), (2, .int x2), (3, .long x3), (5, .long x5), (7, .int x7), (8, .long x8), (10, .int x10)] [] S) {k190 : Int32 → Int32 → Int64 → Int64 → Int32 → Int64 → jS → Option (Int32 × jS)} (hk190 : ∀ (x1 : Int32) (x2 : Int32) (x3 : Int64) (x5 : Int64) (x7 : Int32) (x8 : Int64) (S : jS), k190 x1 x2 x3 x5 x7 x8 S = some z → jJ X (jMain D ad cy) 190 [(0, .ref (ad 41)), (1, .int x1), (2, .int x2), (3, .long x3), (5, .long x5), (7, .int x7), (8, .long x8)] [] S) (x1 : Int32) (x2 : Int32) (x3 : Int64) (x5 : Int64) (x7 : Int32) (x8 : Int64) (x10 : Int32) (S : jS) (hE : f_X12_odds_81  g k190 x1 x2 x3 x5 x7 x8 x10 S = some z) : jJ X (jMain D ad cy) 81 [(0, .ref (ad 41)), (1, .int x1), (2, .int x2), (3, .long x3), (5, .long x5), (7, .int x7), (8, .long x8), (10, .int x10)] [] S := by
  unfold f_X12_odds_81 at hE
  refine j_iload C dX12_odds_81 7 rfl ?_
  refine j_bipush (v := 8) C dX12_odds_83 jc_bp_8 ?_
  refine j_icmp_ge (tgt := 190) C dX12_odds_85 rfl hE (fun hE => ?_) (fun hE => ?_)
  · refine j_sub [0, 1, 2, 3, 4, 5, 6] rfl ?_
    exact hk190 x1 x2 x3 x5 x7 x8 S hE
  · refine j_iload C dX12_odds_88 5 rfl ?_
    refine j_iload C dX12_odds_90 7 rfl ?_
    refine j_ishr C dX12_odds_92 ?_
    refine j_iconst (v := 1) C dX12_odds_93 jc_ic_1 ?_
    refine j_iand C dX12_odds_94 ?_
    refine j_iconst (v := 1) C dX12_odds_95 jc_ic_1 ?_
    refine j_icmp_ne (tgt := 103) C dX12_odds_96 rfl hE (fun hE => ?_) (fun hE => ?_)
    · refine j_iconst (v := 0) C dX12_odds_103 jc_ic_0 ?_
      exact p_X12_odds_104 C Q hg hk190 0 x1 x2 x3 x5 x7 x8 x10 S hE
    · refine j_iconst (v := 1) C dX12_odds_99 jc_ic_1 ?_
      refine j_goto (tgt := 104) C dX12_odds_100 rfl ?_
      exact p_X12_odds_104 C Q hg hk190 1 x1 x2 x3 x5 x7 x8 x10 S hE
theorem q_X12_odds_81 {X : jX} {D : va_G} {ad : Nat → Nat} {cy : Nat → ClassId} (C : jC X (jMain D ad cy) RX12 cX12_odds (some .int) 12 5 113) {z : Int32 × jS} (Q : jRet X (jMain D ad cy) (some (.int z.1), z.2)) {k190 : Int32 → Int32 → Int64 → Int64 → Int32 → Int64 → jS → Option (Int32 × jS)} (hk190 : ∀ (x1 : Int32) (x2 : Int32) (x3 : Int64) (x5 : Int64) (x7 : Int32) (x8 : Int64) (S : jS), k190 x1 x2 x3 x5 x7 x8 S = some z → jJ X (jMain D ad cy) 190 [(0, .ref (ad 41)), (1, .int x1), (2, .int x2), (3, .long x3), (5, .long x5), (7, .int x7), (8, .long x8)] [] S) (x1 : Int32) (x2 : Int32) (x3 : Int64) (x5 : Int64) (x7 : Int32) (x8 : Int64) (x10 : Int32) (S : jS) (hE : lp_X12_odds_81  k190 x1 x2 x3 x5 x7 x8 x10 S = some z) : jJ X (jMain D ad cy) 81 [(0, .ref (ad 41)), (1, .int x1), (2, .int x2), (3, .long x3), (5, .long x5), (7, .int x7), (8, .long x8), (10, .int x10)] [] S :=
  jloop_P (α := Int32 × Int32 × Int64 × Int64 × Int32 × Int64 × Int32 × jS) (B := (fun g q => f_X12_odds_81  (fun x1 x2 x3 x5 x7 x8 x10 S => g (x1, x2, x3, x5, x7, x8, x10, S)) k190 q.1 q.2.1 q.2.2.1 q.2.2.2.1 q.2.2.2.2.1 q.2.2.2.2.2.1 q.2.2.2.2.2.2.1 q.2.2.2.2.2.2.2)) (P := fun q => jJ X (jMain D ad cy) 81 [(0, .ref (ad 41)), (1, .int q.1), (2, .int q.2.1), (3, .long q.2.2.1), (5, .long q.2.2.2.1), (7, .int q.2.2.2.2.1), (8, .long q.2.2.2.2.2.1), (10, .int q.2.2.2.2.2.2.1)] [] q.2.2.2.2.2.2.2) (fun g q hg h => p_X12_odds_81 C Q (g := fun x1 x2 x3 x5 x7 x8 x10 S => g (x1, x2, x3, x5, x7, x8, x10, S)) (fun x1 x2 x3 x5 x7 x8 x10 S h => hg (x1, x2, x3, x5, x7, x8, x10, S) h) hk190 q.1 q.2.1 q.2.2.1 q.2.2.2.1 q.2.2.2.2.1 q.2.2.2.2.2.1 q.2.2.2.2.2.2.1 q.2.2.2.2.2.2.2 h) jN (x1, x2, x3, x5, x7, x8, x10, S) hE
set_option maxRecDepth 100000 in
theorem p_X12_odds_204 {X : jX} {D : va_G} {ad : Nat → Nat} {cy : Nat → ClassId} (C : jC X (jMain D ad cy) RX12 cX12_odds (some .int) 12 5 113) {z : Int32 × jS} (Q : jRet X (jMain D ad cy) (some (.int z.1), z.2)) {g : Int32 → Int32 → Int64 → Int64 → Int32 → jS → Option (Int32 × jS)} (hg : ∀ (x1 : Int32) (x2 : Int32) (x3 : Int64) (x5 : Int64) (x7 : Int32) (S : jS), g x1 x2 x3 x5 x7 S = some z → jJ X (jMain D ad cy) 58 [(0, .ref (ad 41)), (1, .int x1), (2, .int x2), (3, .long x3), (5, .long x5), (7, .int x7)] [] S) {k212 : Int64 → Int64 → jS → Option (Int32 × jS)} (hk212 : ∀ (x3 : Int64) (x5 : Int64) (S : jS), k212 x3 x5 S = some z → jJ X (jMain D ad cy) 212 [(0, .ref (ad 41)), (3, .long x3), (5, .long x5)] [] S) (a0 : Int64) (a1 : Int64) (x1 : Int32) (x2 : Int32) (x5 : Int64) (x7 : Int32) (S : jS) (hE : f_X12_odds_204  g k212 a0 a1 x1 x2 x5 x7 S = some z) : jJ X (jMain D ad cy) 204 [(0, .ref (ad 41)), (1, .int x1), (2, .int x2), (5, .long x5), (7, .int x7)] [.long a0, .long a1] S := by
  unfold f_X12_odds_204 at hE
  refine j_ladd C dX12_odds_204 ?_
  refine j_lstore_n (i := 3) (lv' := [(3, .long (a1 + a0)), (0, .ref (ad 41)), (1, .int x1), (2, .int x2), (5, .long x5), (7, .int x7)]) C dX12_odds_205 rfl (by decide) rfl ?_
  refine j_sub [1, 2, 3, 0, 4, 5] rfl ?_
  exact p_X12_odds_206 C Q hg hk212 x1 x2 (a1 + a0) x5 x7 S hE
set_option maxRecDepth 100000 in
theorem p_X12_odds_190 {X : jX} {D : va_G} {ad : Nat → Nat} {cy : Nat → ClassId} (C : jC X (jMain D ad cy) RX12 cX12_odds (some .int) 12 5 113) {z : Int32 × jS} (Q : jRet X (jMain D ad cy) (some (.int z.1), z.2)) {g : Int32 → Int32 → Int64 → Int64 → Int32 → jS → Option (Int32 × jS)} (hg : ∀ (x1 : Int32) (x2 : Int32) (x3 : Int64) (x5 : Int64) (x7 : Int32) (S : jS), g x1 x2 x3 x5 x7 S = some z → jJ X (jMain D ad cy) 58 [(0, .ref (ad 41)), (1, .int x1), (2, .int x2), (3, .long x3), (5, .long x5), (7, .int x7)] [] S) {k212 : Int64 → Int64 → jS → Option (Int32 × jS)} (hk212 : ∀ (x3 : Int64) (x5 : Int64) (S : jS), k212 x3 x5 S = some z → jJ X (jMain D ad cy) 212 [(0, .ref (ad 41)), (3, .long x3), (5, .long x5)] [] S) (x1 : Int32) (x2 : Int32) (x3 : Int64) (x5 : Int64) (x7 : Int32) (x8 : Int64) (S : jS) (hE : f_X12_odds_190  g k212 x1 x2 x3 x5 x7 x8 S = some z) : jJ X (jMain D ad cy) 190 [(0, .ref (ad 41)), (1, .int x1), (2, .int x2), (3, .long x3), (5, .long x5), (7, .int x7), (8, .long x8)] [] S := by
  unfold f_X12_odds_190 at hE
  refine j_lload_n C dX12_odds_190 3 rfl ?_
  refine j_aload_n C dX12_odds_191 0 rfl ?_
  refine k_X12_134_X12_manyQuarrels C dX12_odds_192 hE (Nat.le_of_ble_eq_true rfl) (Nat.le_of_ble_eq_true rfl) (Nat.le_of_ble_eq_true rfl) (fun v2 S1 hE => ?_)
  refine j_if_ne (tgt := 203) C dX12_odds_195 rfl hE (fun hE => ?_) (fun hE => ?_)
  · refine j_lconst (v := 0) C dX12_odds_203 jc_lc_0 ?_
    refine j_sub [0, 1, 2, 4, 5] rfl ?_
    exact p_X12_odds_204 C Q hg hk212 0 x3 x1 x2 x5 x7 S1 hE
  · refine j_lload C dX12_odds_198 6 rfl ?_
    refine j_goto (tgt := 204) C dX12_odds_200 rfl ?_
    refine j_sub [0, 1, 2, 4, 5] rfl ?_
    exact p_X12_odds_204 C Q hg hk212 x8 x3 x1 x2 x5 x7 S1 hE
set_option maxRecDepth 100000 in
theorem p_X12_odds_58 {X : jX} {D : va_G} {ad : Nat → Nat} {cy : Nat → ClassId} (C : jC X (jMain D ad cy) RX12 cX12_odds (some .int) 12 5 113) {z : Int32 × jS} (Q : jRet X (jMain D ad cy) (some (.int z.1), z.2)) {g : Int32 → Int32 → Int64 → Int64 → Int32 → jS → Option (Int32 × jS)} (hg : ∀ (x1 : Int32) (x2 : Int32) (x3 : Int64) (x5 : Int64) (x7 : Int32) (S : jS), g x1 x2 x3 x5 x7 S = some z → jJ X (jMain D ad cy) 58 [(0, .ref (ad 41)), (1, .int x1), (2, .int x2), (3, .long x3), (5, .long x5), (7, .int x7)] [] S) {k212 : Int64 → Int64 → jS → Option (Int32 × jS)} (hk212 : ∀ (x3 : Int64) (x5 : Int64) (S : jS), k212 x3 x5 S = some z → jJ X (jMain D ad cy) 212 [(0, .ref (ad 41)), (3, .long x3), (5, .long x5)] [] S) (x1 : Int32) (x2 : Int32) (x3 : Int64) (x5 : Int64) (x7 : Int32) (S : jS) (hE : f_X12_odds_58  g k212 x1 x2 x3 x5 x7 S = some z) : jJ X (jMain D ad cy) 58 [(0, .ref (ad 41)), (1, .int x1), (2, .int x2), (3, .long x3), (5, .long x5), (7, .int x7)] [] S := by
  unfold f_X12_odds_58 at hE
  refine j_iload C dX12_odds_58 5 rfl ?_
  refine j_sipush (v := 256) C dX12_odds_60 jc_sp_256 ?_
  refine j_icmp_ge (tgt := 212) C dX12_odds_63 rfl hE (fun hE => ?_) (fun hE => ?_)
  · refine j_sub [0, 3, 4] rfl ?_
    exact hk212 x3 x5 S hE
  · refine j_iload C dX12_odds_66 5 rfl ?_
    refine j_iload_n C dX12_odds_68 2 rfl ?_
    refine j_iconst (v := (-1)) C dX12_odds_69 jc_ic_m1 ?_
    refine j_ixor C dX12_odds_70 ?_
    refine j_iand C dX12_odds_71 ?_
    refine j_if_ne (tgt := 206) C dX12_odds_72 rfl hE (fun hE => ?_) (fun hE => ?_)
    · exact p_X12_odds_206 C Q hg hk212 x1 x2 x3 x5 x7 S hE
    · refine j_lconst (v := 1) C dX12_odds_75 jc_lc_1 ?_
      refine j_lstore (lv' := [(8, .long 1), (0, .ref (ad 41)), (1, .int x1), (2, .int x2), (3, .long x3), (5, .long x5), (7, .int x7)]) C dX12_odds_76 (by decide) rfl ?_
      refine j_iconst (v := 0) C dX12_odds_78 jc_ic_0 ?_
      refine j_istore (lv' := [(10, .int 0), (8, .long 1), (0, .ref (ad 41)), (1, .int x1), (2, .int x2), (3, .long x3), (5, .long x5), (7, .int x7)]) C dX12_odds_79 (by decide) rfl ?_
      refine j_sub [2, 3, 4, 5, 6, 7, 1, 0] rfl ?_
      exact q_X12_odds_81 C Q (p_X12_odds_190 C Q hg hk212) x1 x2 x3 x5 x7 1 0 S hE
theorem q_X12_odds_58 {X : jX} {D : va_G} {ad : Nat → Nat} {cy : Nat → ClassId} (C : jC X (jMain D ad cy) RX12 cX12_odds (some .int) 12 5 113) {z : Int32 × jS} (Q : jRet X (jMain D ad cy) (some (.int z.1), z.2)) {k212 : Int64 → Int64 → jS → Option (Int32 × jS)} (hk212 : ∀ (x3 : Int64) (x5 : Int64) (S : jS), k212 x3 x5 S = some z → jJ X (jMain D ad cy) 212 [(0, .ref (ad 41)), (3, .long x3), (5, .long x5)] [] S) (x1 : Int32) (x2 : Int32) (x3 : Int64) (x5 : Int64) (x7 : Int32) (S : jS) (hE : lp_X12_odds_58  k212 x1 x2 x3 x5 x7 S = some z) : jJ X (jMain D ad cy) 58 [(0, .ref (ad 41)), (1, .int x1), (2, .int x2), (3, .long x3), (5, .long x5), (7, .int x7)] [] S :=
  jloop_P (α := Int32 × Int32 × Int64 × Int64 × Int32 × jS) (B := (fun g q => f_X12_odds_58  (fun x1 x2 x3 x5 x7 S => g (x1, x2, x3, x5, x7, S)) k212 q.1 q.2.1 q.2.2.1 q.2.2.2.1 q.2.2.2.2.1 q.2.2.2.2.2)) (P := fun q => jJ X (jMain D ad cy) 58 [(0, .ref (ad 41)), (1, .int q.1), (2, .int q.2.1), (3, .long q.2.2.1), (5, .long q.2.2.2.1), (7, .int q.2.2.2.2.1)] [] q.2.2.2.2.2) (fun g q hg h => p_X12_odds_58 C Q (g := fun x1 x2 x3 x5 x7 S => g (x1, x2, x3, x5, x7, S)) (fun x1 x2 x3 x5 x7 S h => hg (x1, x2, x3, x5, x7, S) h) hk212 q.1 q.2.1 q.2.2.1 q.2.2.2.1 q.2.2.2.2.1 q.2.2.2.2.2 h) jN (x1, x2, x3, x5, x7, S) hE
set_option maxRecDepth 100000 in
theorem p_X12_odds_212 {X : jX} {D : va_G} {ad : Nat → Nat} {cy : Nat → ClassId} (C : jC X (jMain D ad cy) RX12 cX12_odds (some .int) 12 5 113) {z : Int32 × jS} (Q : jRet X (jMain D ad cy) (some (.int z.1), z.2))  (x3 : Int64) (x5 : Int64) (S : jS) (hE : f_X12_odds_212   x3 x5 S = some z) : jJ X (jMain D ad cy) 212 [(0, .ref (ad 41)), (3, .long x3), (5, .long x5)] [] S := by
  unfold f_X12_odds_212 at hE
  refine j_aload_n C dX12_odds_212 0 rfl ?_
  refine j_lload_n C dX12_odds_213 1 rfl ?_
  refine j_lload C dX12_odds_214 2 rfl ?_
  refine k_X12_212_X12_fraction C dX12_odds_216 hE (Nat.le_of_ble_eq_true rfl) (Nat.le_of_ble_eq_true rfl) (Nat.le_of_ble_eq_true rfl) (fun S1 hE => ?_)
  refine j_iconst (v := 1) C dX12_odds_219 jc_ic_1 ?_
  exact j_iret C Q dX12_odds_220 hE
set_option maxRecDepth 100000 in
theorem p_X12_odds_55 {X : jX} {D : va_G} {ad : Nat → Nat} {cy : Nat → ClassId} (C : jC X (jMain D ad cy) RX12 cX12_odds (some .int) 12 5 113) {z : Int32 × jS} (Q : jRet X (jMain D ad cy) (some (.int z.1), z.2))  (x1 : Int32) (x2 : Int32) (x3 : Int64) (x5 : Int64) (S : jS) (hE : f_X12_odds_55   x1 x2 x3 x5 S = some z) : jJ X (jMain D ad cy) 55 [(0, .ref (ad 41)), (1, .int x1), (2, .int x2), (3, .long x3), (5, .long x5)] [] S := by
  unfold f_X12_odds_55 at hE
  refine j_iconst (v := 0) C dX12_odds_55 jc_ic_0 ?_
  refine j_istore (lv' := [(7, .int 0), (0, .ref (ad 41)), (1, .int x1), (2, .int x2), (3, .long x3), (5, .long x5)]) C dX12_odds_56 (by decide) rfl ?_
  refine j_sub [1, 2, 3, 4, 5, 0] rfl ?_
  exact q_X12_odds_58 C Q (p_X12_odds_212 C Q ) x1 x2 x3 x5 0 S hE
set_option maxRecDepth 100000 in
theorem p_X12_odds_e {X : jX} {D : va_G} {ad : Nat → Nat} {cy : Nat → ClassId} (C : jC X (jMain D ad cy) RX12 cX12_odds (some .int) 12 5 113) {z : Int32 × jS} (Q : jRet X (jMain D ad cy) (some (.int z.1), z.2))  (x1 : Int32) (S : jS) (hE : f_X12_odds_e   x1 S = some z) : jJ X (jMain D ad cy) 0 [(0, .ref (ad 41)), (1, .int x1)] [] S := by
  unfold f_X12_odds_e at hE
  refine j_iload_n C dX12_odds_0 1 rfl ?_
  refine j_i2l C dX12_odds_1 ?_
  refine j_lconst (v := 0) C dX12_odds_2 jc_lc_0 ?_
  refine j_ldc2 (v := 10) C dX12_odds_3 tw_1198 ?_
  refine k_X12_59_X12_in C dX12_odds_6 hE (Nat.le_of_ble_eq_true rfl) (Nat.le_of_ble_eq_true rfl) (Nat.le_of_ble_eq_true rfl) (fun v2 S1 hE => ?_)
  refine j_if_ne (tgt := 19) C dX12_odds_9 rfl hE (fun hE => ?_) (fun hE => ?_)
  · refine j_aload_n C dX12_odds_19 0 rfl ?_
    refine k_X12_91_X12_lived C dX12_odds_20 hE (Nat.le_of_ble_eq_true rfl) (Nat.le_of_ble_eq_true rfl) (Nat.le_of_ble_eq_true rfl) (fun v4 S3 hE => ?_)
    refine j_istore_n (i := 2) (lv' := [(2, .int v4), (0, .ref (ad 41)), (1, .int x1)]) C dX12_odds_23 rfl (by decide) rfl ?_
    refine j_lconst (v := 0) C dX12_odds_24 jc_lc_0 ?_
    refine j_lstore_n (i := 3) (lv' := [(3, .long 0), (2, .int v4), (0, .ref (ad 41)), (1, .int x1)]) C dX12_odds_25 rfl (by decide) rfl ?_
    refine j_lconst (v := 1) C dX12_odds_26 jc_lc_1 ?_
    refine j_lstore (lv' := [(5, .long 1), (3, .long 0), (2, .int v4), (0, .ref (ad 41)), (1, .int x1)]) C dX12_odds_27 (by decide) rfl ?_
    refine j_iconst (v := 0) C dX12_odds_29 jc_ic_0 ?_
    refine j_istore (lv' := [(7, .int 0), (5, .long 1), (3, .long 0), (2, .int v4), (0, .ref (ad 41)), (1, .int x1)]) C dX12_odds_30 (by decide) rfl ?_
    refine j_sub [4, 5, 3, 2, 1, 0] rfl ?_
    exact q_X12_odds_32 C Q (p_X12_odds_55 C Q ) x1 v4 0 1 0 S3 hE
  · refine j_aload_n C dX12_odds_12 0 rfl ?_
    refine j_bipush (v := (-2)) C dX12_odds_13 jc_bp_m2 ?_
    refine k_X12_87_X12_bad C dX12_odds_15 hE (Nat.le_of_ble_eq_true rfl) (Nat.le_of_ble_eq_true rfl) (Nat.le_of_ble_eq_true rfl) (fun v6 S5 hE => ?_)
    exact j_iret C Q dX12_odds_18 hE
theorem c_X12_odds {l : Launch} {D : va_G} {ad : Nat → Nat} {cy : Nat → ClassId} (hO : jOk (jMain D ad cy)) (x1 : Int32) (S : jS) {z : Int32 × jS} (hz : f_X12_odds x1 S = some z) : Met l yX12_odds (.code yX12_odds cX12_odds 12 (some .int) :: jT) { frames := 5, cells := 0, slots := 0, locals := 113 } (va_Pc [.ref (ad 41), .int x1] (jInv (jMain D ad cy) S)) (jQ (jMain D ad cy) (some (.int z.1), z.2)) 0 0 (yA (jMain D ad cy)) :=
  jMet hO (by decide +kernel) rfl (Nat.le_of_ble_eq_true rfl) (fun X _ C Q => p_X12_odds_e C Q x1 S hz)
set_option maxRecDepth 100000 in
theorem p_X2_peacefulTenths_r22_172 {X : jX} {D : va_G} {ad : Nat → Nat} {cy : Nat → ClassId} (C : jC X (jMain D ad cy) RX2 cX2_peacefulTenths (some .long) 17 4 95) {z : Int64 × jS} (Q : jRet X (jMain D ad cy) (some (.long z.1), z.2)) {g : Int32 → Int32 → Int32 → Int32 → Int64 → Int64 → Int32 → jS → Option (Int64 × jS)} (hg : ∀ (x1 : Int32) (x3 : Int32) (x4 : Int32) (x5 : Int32) (x6 : Int64) (x8 : Int64) (x10 : Int32) (S : jS), g x1 x3 x4 x5 x6 x8 x10 S = some z → jJ X (jMain D ad cy) 15 [(0, .ref (ad 4)), (1, .int x1), (2, .ref (ad 22)), (3, .int x3), (4, .int x4), (5, .int x5), (6, .long x6), (8, .long x8), (10, .int x10)] [] S) {k188 : Int64 → Int64 → jS → Option (Int64 × jS)} (hk188 : ∀ (x6 : Int64) (x8 : Int64) (S : jS), k188 x6 x8 S = some z → jJ X (jMain D ad cy) 188 [(6, .long x6), (8, .long x8)] [] S) (a0 : Int64) (x1 : Int32) (x3 : Int32) (x6 : Int64) (x10 : Int32) (x11 : Int32) (x12 : Int32) (S : jS) (hE : f_X2_peacefulTenths_r22_172  g k188 a0 x1 x3 x6 x10 x11 x12 S = some z) : jJ X (jMain D ad cy) 172 [(0, .ref (ad 4)), (1, .int x1), (2, .ref (ad 22)), (3, .int x3), (6, .long x6), (10, .int x10), (11, .int x11), (12, .int x12)] [.long a0] S := by
  unfold f_X2_peacefulTenths_r22_172 at hE
  refine j_lstore (lv' := [(8, .long a0), (0, .ref (ad 4)), (1, .int x1), (2, .ref (ad 22)), (3, .int x3), (6, .long x6), (10, .int x10), (11, .int x11), (12, .int x12)]) C dX2_peacefulTenths_172 (by decide) rfl ?_
  refine j_iload C dX2_peacefulTenths_174 7 rfl ?_
  refine j_istore (lv' := [(4, .int x11), (8, .long a0), (0, .ref (ad 4)), (1, .int x1), (2, .ref (ad 22)), (3, .int x3), (6, .long x6), (10, .int x10), (11, .int x11), (12, .int x12)]) C dX2_peacefulTenths_176 (by decide) rfl ?_
  refine j_iload C dX2_peacefulTenths_178 9 rfl ?_
  refine j_istore (lv' := [(5, .int x12), (4, .int x11), (8, .long a0), (0, .ref (ad 4)), (1, .int x1), (2, .ref (ad 22)), (3, .int x3), (6, .long x6), (10, .int x10), (11, .int x11), (12, .int x12)]) C dX2_peacefulTenths_180 (by decide) rfl ?_
  refine j_iinc (v := (x10 + 1)) (lv' := [(10, .int (x10 + 1)), (5, .int x12), (4, .int x11), (8, .long a0), (0, .ref (ad 4)), (1, .int x1), (2, .ref (ad 22)), (3, .int x3), (6, .long x6), (11, .int x11), (12, .int x12)]) C dX2_peacefulTenths_182 8 rfl (congrArg (fun w => x10 + w) jc_ic_1) (by decide) rfl ?_
  refine j_goto (tgt := 15) C dX2_peacefulTenths_185 rfl ?_
  refine j_sub [4, 5, 6, 7, 2, 1, 8, 3, 0] rfl ?_
  exact hg x1 x3 x11 x12 x6 a0 (x10 + 1) S hE
set_option maxRecDepth 100000 in
theorem p_X2_peacefulTenths_r22_156 {X : jX} {D : va_G} {ad : Nat → Nat} {cy : Nat → ClassId} (C : jC X (jMain D ad cy) RX2 cX2_peacefulTenths (some .long) 17 4 95) {z : Int64 × jS} (Q : jRet X (jMain D ad cy) (some (.long z.1), z.2)) {g : Int32 → Int32 → Int32 → Int32 → Int64 → Int64 → Int32 → jS → Option (Int64 × jS)} (hg : ∀ (x1 : Int32) (x3 : Int32) (x4 : Int32) (x5 : Int32) (x6 : Int64) (x8 : Int64) (x10 : Int32) (S : jS), g x1 x3 x4 x5 x6 x8 x10 S = some z → jJ X (jMain D ad cy) 15 [(0, .ref (ad 4)), (1, .int x1), (2, .ref (ad 22)), (3, .int x3), (4, .int x4), (5, .int x5), (6, .long x6), (8, .long x8), (10, .int x10)] [] S) {k188 : Int64 → Int64 → jS → Option (Int64 × jS)} (hk188 : ∀ (x6 : Int64) (x8 : Int64) (S : jS), k188 x6 x8 S = some z → jJ X (jMain D ad cy) 188 [(6, .long x6), (8, .long x8)] [] S) (a0 : Int64) (x1 : Int32) (x3 : Int32) (x10 : Int32) (x11 : Int32) (x12 : Int32) (x15 : Int64) (S : jS) (hE : f_X2_peacefulTenths_r22_156  g k188 a0 x1 x3 x10 x11 x12 x15 S = some z) : jJ X (jMain D ad cy) 156 [(0, .ref (ad 4)), (1, .int x1), (2, .ref (ad 22)), (3, .int x3), (10, .int x10), (11, .int x11), (12, .int x12), (15, .long x15)] [.long a0] S := by
  unfold f_X2_peacefulTenths_r22_156 at hE
  refine j_lstore (lv' := [(6, .long a0), (0, .ref (ad 4)), (1, .int x1), (2, .ref (ad 22)), (3, .int x3), (10, .int x10), (11, .int x11), (12, .int x12), (15, .long x15)]) C dX2_peacefulTenths_156 (by decide) rfl ?_
  refine j_iload C dX2_peacefulTenths_158 6 rfl ?_
  refine j_if_ne (tgt := 167) C dX2_peacefulTenths_160 rfl hE (fun hE => ?_) (fun hE => ?_)
  · refine j_lload C dX2_peacefulTenths_167 8 rfl ?_
    refine j_iload_n C dX2_peacefulTenths_169 4 rfl ?_
    refine j_i2l C dX2_peacefulTenths_170 ?_
    refine j_lmul C dX2_peacefulTenths_171 ?_
    refine j_sub [1, 2, 3, 4, 0, 5, 6, 7] rfl ?_
    exact p_X2_peacefulTenths_r22_172 C Q hg hk188 (x15 * x3.toInt64) x1 x3 a0 x10 x11 x12 S hE
  · refine j_lconst (v := 0) C dX2_peacefulTenths_163 jc_lc_0 ?_
    refine j_goto (tgt := 172) C dX2_peacefulTenths_164 rfl ?_
    refine j_sub [1, 2, 3, 4, 0, 5, 6, 7] rfl ?_
    exact p_X2_peacefulTenths_r22_172 C Q hg hk188 0 x1 x3 a0 x10 x11 x12 S hE
set_option maxRecDepth 100000 in
theorem p_X2_peacefulTenths_r22_135 {X : jX} {D : va_G} {ad : Nat → Nat} {cy : Nat → ClassId} (C : jC X (jMain D ad cy) RX2 cX2_peacefulTenths (some .long) 17 4 95) {z : Int64 × jS} (Q : jRet X (jMain D ad cy) (some (.long z.1), z.2)) {g : Int32 → Int32 → Int32 → Int32 → Int64 → Int64 → Int32 → jS → Option (Int64 × jS)} (hg : ∀ (x1 : Int32) (x3 : Int32) (x4 : Int32) (x5 : Int32) (x6 : Int64) (x8 : Int64) (x10 : Int32) (S : jS), g x1 x3 x4 x5 x6 x8 x10 S = some z → jJ X (jMain D ad cy) 15 [(0, .ref (ad 4)), (1, .int x1), (2, .ref (ad 22)), (3, .int x3), (4, .int x4), (5, .int x5), (6, .long x6), (8, .long x8), (10, .int x10)] [] S) {k188 : Int64 → Int64 → jS → Option (Int64 × jS)} (hk188 : ∀ (x6 : Int64) (x8 : Int64) (S : jS), k188 x6 x8 S = some z → jJ X (jMain D ad cy) 188 [(6, .long x6), (8, .long x8)] [] S) (a0 : Int64) (a1 : Int64) (x1 : Int32) (x3 : Int32) (x10 : Int32) (x11 : Int32) (x12 : Int32) (x13 : Int64) (S : jS) (hE : f_X2_peacefulTenths_r22_135  g k188 a0 a1 x1 x3 x10 x11 x12 x13 S = some z) : jJ X (jMain D ad cy) 135 [(0, .ref (ad 4)), (1, .int x1), (2, .ref (ad 22)), (3, .int x3), (10, .int x10), (11, .int x11), (12, .int x12), (13, .long x13)] [.long a0, .long a1] S := by
  unfold f_X2_peacefulTenths_r22_135 at hE
  refine j_ladd C dX2_peacefulTenths_135 ?_
  refine j_lstore (lv' := [(15, .long (a1 + a0)), (0, .ref (ad 4)), (1, .int x1), (2, .ref (ad 22)), (3, .int x3), (10, .int x10), (11, .int x11), (12, .int x12), (13, .long x13)]) C dX2_peacefulTenths_136 (by decide) rfl ?_
  refine j_iload C dX2_peacefulTenths_138 6 rfl ?_
  refine j_if_ne (tgt := 148) C dX2_peacefulTenths_140 rfl hE (fun hE => ?_) (fun hE => ?_)
  · refine j_lload C dX2_peacefulTenths_148 8 rfl ?_
    refine j_bipush (v := 10) C dX2_peacefulTenths_150 jc_bp_10 ?_
    refine j_iload_n C dX2_peacefulTenths_152 4 rfl ?_
    refine j_isub C dX2_peacefulTenths_153 ?_
    refine j_i2l C dX2_peacefulTenths_154 ?_
    refine j_lmul C dX2_peacefulTenths_155 ?_
    refine j_sub [1, 2, 3, 4, 5, 6, 7, 0] rfl ?_
    exact p_X2_peacefulTenths_r22_156 C Q hg hk188 (x13 * ((10 - x3) : Int32).toInt64) x1 x3 x10 x11 x12 (a1 + a0) S hE
  · refine j_lload C dX2_peacefulTenths_143 8 rfl ?_
    refine j_goto (tgt := 156) C dX2_peacefulTenths_145 rfl ?_
    refine j_sub [1, 2, 3, 4, 5, 6, 7, 0] rfl ?_
    exact p_X2_peacefulTenths_r22_156 C Q hg hk188 x13 x1 x3 x10 x11 x12 (a1 + a0) S hE
set_option maxRecDepth 100000 in
theorem p_X2_peacefulTenths_r22_113 {X : jX} {D : va_G} {ad : Nat → Nat} {cy : Nat → ClassId} (C : jC X (jMain D ad cy) RX2 cX2_peacefulTenths (some .long) 17 4 95) {z : Int64 × jS} (Q : jRet X (jMain D ad cy) (some (.long z.1), z.2)) {g : Int32 → Int32 → Int32 → Int32 → Int64 → Int64 → Int32 → jS → Option (Int64 × jS)} (hg : ∀ (x1 : Int32) (x3 : Int32) (x4 : Int32) (x5 : Int32) (x6 : Int64) (x8 : Int64) (x10 : Int32) (S : jS), g x1 x3 x4 x5 x6 x8 x10 S = some z → jJ X (jMain D ad cy) 15 [(0, .ref (ad 4)), (1, .int x1), (2, .ref (ad 22)), (3, .int x3), (4, .int x4), (5, .int x5), (6, .long x6), (8, .long x8), (10, .int x10)] [] S) {k188 : Int64 → Int64 → jS → Option (Int64 × jS)} (hk188 : ∀ (x6 : Int64) (x8 : Int64) (S : jS), k188 x6 x8 S = some z → jJ X (jMain D ad cy) 188 [(6, .long x6), (8, .long x8)] [] S) (a0 : Int64) (x1 : Int32) (x3 : Int32) (x5 : Int32) (x8 : Int64) (x10 : Int32) (x11 : Int32) (x12 : Int32) (x13 : Int64) (S : jS) (hE : f_X2_peacefulTenths_r22_113  g k188 a0 x1 x3 x5 x8 x10 x11 x12 x13 S = some z) : jJ X (jMain D ad cy) 113 [(0, .ref (ad 4)), (1, .int x1), (2, .ref (ad 22)), (3, .int x3), (5, .int x5), (8, .long x8), (10, .int x10), (11, .int x11), (12, .int x12), (13, .long x13)] [.long a0] S := by
  unfold f_X2_peacefulTenths_r22_113 at hE
  refine j_lstore (lv' := [(15, .long a0), (0, .ref (ad 4)), (1, .int x1), (2, .ref (ad 22)), (3, .int x3), (5, .int x5), (8, .long x8), (10, .int x10), (11, .int x11), (12, .int x12), (13, .long x13)]) C dX2_peacefulTenths_113 (by decide) rfl ?_
  refine j_lload C dX2_peacefulTenths_115 0 rfl ?_
  refine j_aload_n C dX2_peacefulTenths_117 1 rfl ?_
  refine j_iload_n C dX2_peacefulTenths_118 2 rfl ?_
  refine j_iload C dX2_peacefulTenths_119 5 rfl ?_
  refine j_iload C dX2_peacefulTenths_121 9 rfl ?_
  refine k_X2_39_X2_allows C dX2_peacefulTenths_123 hE (Nat.le_of_ble_eq_true rfl) (Nat.le_of_ble_eq_true rfl) (Nat.le_of_ble_eq_true rfl) (fun v2 S1 hE => ?_)
  refine j_if_eq (tgt := 134) C dX2_peacefulTenths_126 rfl hE (fun hE => ?_) (fun hE => ?_)
  · refine j_lconst (v := 0) C dX2_peacefulTenths_134 jc_lc_0 ?_
    refine j_sub [1, 2, 3, 4, 7, 8, 9, 10] rfl ?_
    exact p_X2_peacefulTenths_r22_135 C Q hg hk188 0 a0 x1 x3 x10 x11 x12 x13 S1 hE
  · refine j_lload C dX2_peacefulTenths_129 6 rfl ?_
    refine j_goto (tgt := 135) C dX2_peacefulTenths_131 rfl ?_
    refine j_sub [1, 2, 3, 4, 7, 8, 9, 10] rfl ?_
    exact p_X2_peacefulTenths_r22_135 C Q hg hk188 x8 a0 x1 x3 x10 x11 x12 x13 S1 hE
set_option maxRecDepth 100000 in
theorem p_X2_peacefulTenths_r22_92 {X : jX} {D : va_G} {ad : Nat → Nat} {cy : Nat → ClassId} (C : jC X (jMain D ad cy) RX2 cX2_peacefulTenths (some .long) 17 4 95) {z : Int64 × jS} (Q : jRet X (jMain D ad cy) (some (.long z.1), z.2)) {g : Int32 → Int32 → Int32 → Int32 → Int64 → Int64 → Int32 → jS → Option (Int64 × jS)} (hg : ∀ (x1 : Int32) (x3 : Int32) (x4 : Int32) (x5 : Int32) (x6 : Int64) (x8 : Int64) (x10 : Int32) (S : jS), g x1 x3 x4 x5 x6 x8 x10 S = some z → jJ X (jMain D ad cy) 15 [(0, .ref (ad 4)), (1, .int x1), (2, .ref (ad 22)), (3, .int x3), (4, .int x4), (5, .int x5), (6, .long x6), (8, .long x8), (10, .int x10)] [] S) {k188 : Int64 → Int64 → jS → Option (Int64 × jS)} (hk188 : ∀ (x6 : Int64) (x8 : Int64) (S : jS), k188 x6 x8 S = some z → jJ X (jMain D ad cy) 188 [(6, .long x6), (8, .long x8)] [] S) (a0 : Int64) (a1 : Int64) (x1 : Int32) (x3 : Int32) (x4 : Int32) (x5 : Int32) (x6 : Int64) (x8 : Int64) (x10 : Int32) (x11 : Int32) (x12 : Int32) (S : jS) (hE : f_X2_peacefulTenths_r22_92  g k188 a0 a1 x1 x3 x4 x5 x6 x8 x10 x11 x12 S = some z) : jJ X (jMain D ad cy) 92 [(0, .ref (ad 4)), (1, .int x1), (2, .ref (ad 22)), (3, .int x3), (4, .int x4), (5, .int x5), (6, .long x6), (8, .long x8), (10, .int x10), (11, .int x11), (12, .int x12)] [.long a0, .long a1] S := by
  unfold f_X2_peacefulTenths_r22_92 at hE
  refine j_ladd C dX2_peacefulTenths_92 ?_
  refine j_lstore (lv' := [(13, .long (a1 + a0)), (0, .ref (ad 4)), (1, .int x1), (2, .ref (ad 22)), (3, .int x3), (4, .int x4), (5, .int x5), (6, .long x6), (8, .long x8), (10, .int x10), (11, .int x11), (12, .int x12)]) C dX2_peacefulTenths_93 (by decide) rfl ?_
  refine j_aload_n C dX2_peacefulTenths_95 1 rfl ?_
  refine j_iload_n C dX2_peacefulTenths_96 2 rfl ?_
  refine j_iload C dX2_peacefulTenths_97 5 rfl ?_
  refine j_iload C dX2_peacefulTenths_99 11 rfl ?_
  refine k_X2_39_X2_allows C dX2_peacefulTenths_101 hE (Nat.le_of_ble_eq_true rfl) (Nat.le_of_ble_eq_true rfl) (Nat.le_of_ble_eq_true rfl) (fun v2 S1 hE => ?_)
  refine j_if_eq (tgt := 112) C dX2_peacefulTenths_104 rfl hE (fun hE => ?_) (fun hE => ?_)
  · refine j_lconst (v := 0) C dX2_peacefulTenths_112 jc_lc_0 ?_
    refine j_sub [1, 2, 3, 4, 6, 8, 9, 10, 11, 0] rfl ?_
    exact p_X2_peacefulTenths_r22_113 C Q hg hk188 0 x1 x3 x5 x8 x10 x11 x12 (a1 + a0) S1 hE
  · refine j_lload C dX2_peacefulTenths_107 7 rfl ?_
    refine j_goto (tgt := 113) C dX2_peacefulTenths_109 rfl ?_
    refine j_sub [1, 2, 3, 4, 6, 8, 9, 10, 11, 0] rfl ?_
    exact p_X2_peacefulTenths_r22_113 C Q hg hk188 x6 x1 x3 x5 x8 x10 x11 x12 (a1 + a0) S1 hE
set_option maxRecDepth 100000 in
theorem p_X2_peacefulTenths_r22_70 {X : jX} {D : va_G} {ad : Nat → Nat} {cy : Nat → ClassId} (C : jC X (jMain D ad cy) RX2 cX2_peacefulTenths (some .long) 17 4 95) {z : Int64 × jS} (Q : jRet X (jMain D ad cy) (some (.long z.1), z.2)) {g : Int32 → Int32 → Int32 → Int32 → Int64 → Int64 → Int32 → jS → Option (Int64 × jS)} (hg : ∀ (x1 : Int32) (x3 : Int32) (x4 : Int32) (x5 : Int32) (x6 : Int64) (x8 : Int64) (x10 : Int32) (S : jS), g x1 x3 x4 x5 x6 x8 x10 S = some z → jJ X (jMain D ad cy) 15 [(0, .ref (ad 4)), (1, .int x1), (2, .ref (ad 22)), (3, .int x3), (4, .int x4), (5, .int x5), (6, .long x6), (8, .long x8), (10, .int x10)] [] S) {k188 : Int64 → Int64 → jS → Option (Int64 × jS)} (hk188 : ∀ (x6 : Int64) (x8 : Int64) (S : jS), k188 x6 x8 S = some z → jJ X (jMain D ad cy) 188 [(6, .long x6), (8, .long x8)] [] S) (a0 : Int64) (x1 : Int32) (x3 : Int32) (x4 : Int32) (x5 : Int32) (x6 : Int64) (x8 : Int64) (x10 : Int32) (x11 : Int32) (x12 : Int32) (S : jS) (hE : f_X2_peacefulTenths_r22_70  g k188 a0 x1 x3 x4 x5 x6 x8 x10 x11 x12 S = some z) : jJ X (jMain D ad cy) 70 [(0, .ref (ad 4)), (1, .int x1), (2, .ref (ad 22)), (3, .int x3), (4, .int x4), (5, .int x5), (6, .long x6), (8, .long x8), (10, .int x10), (11, .int x11), (12, .int x12)] [.long a0] S := by
  unfold f_X2_peacefulTenths_r22_70 at hE
  refine j_lstore (lv' := [(13, .long a0), (0, .ref (ad 4)), (1, .int x1), (2, .ref (ad 22)), (3, .int x3), (4, .int x4), (5, .int x5), (6, .long x6), (8, .long x8), (10, .int x10), (11, .int x11), (12, .int x12)]) C dX2_peacefulTenths_70 (by decide) rfl ?_
  refine j_lload C dX2_peacefulTenths_72 0 rfl ?_
  refine j_aload_n C dX2_peacefulTenths_74 1 rfl ?_
  refine j_iload_n C dX2_peacefulTenths_75 2 rfl ?_
  refine j_iload C dX2_peacefulTenths_76 6 rfl ?_
  refine j_iload C dX2_peacefulTenths_78 10 rfl ?_
  refine k_X2_39_X2_allows C dX2_peacefulTenths_80 hE (Nat.le_of_ble_eq_true rfl) (Nat.le_of_ble_eq_true rfl) (Nat.le_of_ble_eq_true rfl) (fun v2 S1 hE => ?_)
  refine j_if_eq (tgt := 91) C dX2_peacefulTenths_83 rfl hE (fun hE => ?_) (fun hE => ?_)
  · refine j_lconst (v := 0) C dX2_peacefulTenths_91 jc_lc_0 ?_
    refine j_sub [1, 2, 3, 4, 5, 6, 7, 8, 9, 10, 11] rfl ?_
    exact p_X2_peacefulTenths_r22_92 C Q hg hk188 0 a0 x1 x3 x4 x5 x6 x8 x10 x11 x12 S1 hE
  · refine j_lload C dX2_peacefulTenths_86 8 rfl ?_
    refine j_goto (tgt := 92) C dX2_peacefulTenths_88 rfl ?_
    refine j_sub [1, 2, 3, 4, 5, 6, 7, 8, 9, 10, 11] rfl ?_
    exact p_X2_peacefulTenths_r22_92 C Q hg hk188 x8 a0 x1 x3 x4 x5 x6 x8 x10 x11 x12 S1 hE
set_option maxRecDepth 100000 in
theorem p_X2_peacefulTenths_r22_50 {X : jX} {D : va_G} {ad : Nat → Nat} {cy : Nat → ClassId} (C : jC X (jMain D ad cy) RX2 cX2_peacefulTenths (some .long) 17 4 95) {z : Int64 × jS} (Q : jRet X (jMain D ad cy) (some (.long z.1), z.2)) {g : Int32 → Int32 → Int32 → Int32 → Int64 → Int64 → Int32 → jS → Option (Int64 × jS)} (hg : ∀ (x1 : Int32) (x3 : Int32) (x4 : Int32) (x5 : Int32) (x6 : Int64) (x8 : Int64) (x10 : Int32) (S : jS), g x1 x3 x4 x5 x6 x8 x10 S = some z → jJ X (jMain D ad cy) 15 [(0, .ref (ad 4)), (1, .int x1), (2, .ref (ad 22)), (3, .int x3), (4, .int x4), (5, .int x5), (6, .long x6), (8, .long x8), (10, .int x10)] [] S) {k188 : Int64 → Int64 → jS → Option (Int64 × jS)} (hk188 : ∀ (x6 : Int64) (x8 : Int64) (S : jS), k188 x6 x8 S = some z → jJ X (jMain D ad cy) 188 [(6, .long x6), (8, .long x8)] [] S) (a0 : Int32) (x1 : Int32) (x3 : Int32) (x4 : Int32) (x5 : Int32) (x6 : Int64) (x8 : Int64) (x10 : Int32) (x11 : Int32) (S : jS) (hE : f_X2_peacefulTenths_r22_50  g k188 a0 x1 x3 x4 x5 x6 x8 x10 x11 S = some z) : jJ X (jMain D ad cy) 50 [(0, .ref (ad 4)), (1, .int x1), (2, .ref (ad 22)), (3, .int x3), (4, .int x4), (5, .int x5), (6, .long x6), (8, .long x8), (10, .int x10), (11, .int x11)] [.int a0] S := by
  unfold f_X2_peacefulTenths_r22_50 at hE
  refine j_istore (lv' := [(12, .int a0), (0, .ref (ad 4)), (1, .int x1), (2, .ref (ad 22)), (3, .int x3), (4, .int x4), (5, .int x5), (6, .long x6), (8, .long x8), (10, .int x10), (11, .int x11)]) C dX2_peacefulTenths_50 (by decide) rfl ?_
  refine j_aload_n C dX2_peacefulTenths_52 1 rfl ?_
  refine j_iload_n C dX2_peacefulTenths_53 2 rfl ?_
  refine j_iload C dX2_peacefulTenths_54 5 rfl ?_
  refine j_iload C dX2_peacefulTenths_56 10 rfl ?_
  refine k_X2_39_X2_allows C dX2_peacefulTenths_58 hE (Nat.le_of_ble_eq_true rfl) (Nat.le_of_ble_eq_true rfl) (Nat.le_of_ble_eq_true rfl) (fun v2 S1 hE => ?_)
  refine j_if_eq (tgt := 69) C dX2_peacefulTenths_61 rfl hE (fun hE => ?_) (fun hE => ?_)
  · refine j_lconst (v := 0) C dX2_peacefulTenths_69 jc_lc_0 ?_
    refine j_sub [1, 2, 3, 4, 5, 6, 7, 8, 9, 10, 0] rfl ?_
    exact p_X2_peacefulTenths_r22_70 C Q hg hk188 0 x1 x3 x4 x5 x6 x8 x10 x11 a0 S1 hE
  · refine j_lload C dX2_peacefulTenths_64 7 rfl ?_
    refine j_goto (tgt := 70) C dX2_peacefulTenths_66 rfl ?_
    refine j_sub [1, 2, 3, 4, 5, 6, 7, 8, 9, 10, 0] rfl ?_
    exact p_X2_peacefulTenths_r22_70 C Q hg hk188 x6 x1 x3 x4 x5 x6 x8 x10 x11 a0 S1 hE
set_option maxRecDepth 100000 in
theorem p_X2_peacefulTenths_r22_41 {X : jX} {D : va_G} {ad : Nat → Nat} {cy : Nat → ClassId} (C : jC X (jMain D ad cy) RX2 cX2_peacefulTenths (some .long) 17 4 95) {z : Int64 × jS} (Q : jRet X (jMain D ad cy) (some (.long z.1), z.2)) {g : Int32 → Int32 → Int32 → Int32 → Int64 → Int64 → Int32 → jS → Option (Int64 × jS)} (hg : ∀ (x1 : Int32) (x3 : Int32) (x4 : Int32) (x5 : Int32) (x6 : Int64) (x8 : Int64) (x10 : Int32) (S : jS), g x1 x3 x4 x5 x6 x8 x10 S = some z → jJ X (jMain D ad cy) 15 [(0, .ref (ad 4)), (1, .int x1), (2, .ref (ad 22)), (3, .int x3), (4, .int x4), (5, .int x5), (6, .long x6), (8, .long x8), (10, .int x10)] [] S) {k188 : Int64 → Int64 → jS → Option (Int64 × jS)} (hk188 : ∀ (x6 : Int64) (x8 : Int64) (S : jS), k188 x6 x8 S = some z → jJ X (jMain D ad cy) 188 [(6, .long x6), (8, .long x8)] [] S) (x1 : Int32) (x3 : Int32) (x4 : Int32) (x5 : Int32) (x6 : Int64) (x8 : Int64) (x10 : Int32) (x11 : Int32) (S : jS) (hE : f_X2_peacefulTenths_r22_41  g k188 x1 x3 x4 x5 x6 x8 x10 x11 S = some z) : jJ X (jMain D ad cy) 41 [(0, .ref (ad 4)), (1, .int x1), (2, .ref (ad 22)), (3, .int x3), (4, .int x4), (5, .int x5), (6, .long x6), (8, .long x8), (10, .int x10), (11, .int x11)] [] S := by
  unfold f_X2_peacefulTenths_r22_41 at hE
  refine j_iload C dX2_peacefulTenths_41 9 rfl ?_
  refine j_goto (tgt := 50) C dX2_peacefulTenths_43 rfl ?_
  exact p_X2_peacefulTenths_r22_50 C Q hg hk188 x11 x1 x3 x4 x5 x6 x8 x10 x11 S hE
set_option maxRecDepth 100000 in
theorem p_X2_peacefulTenths_r22_15 {X : jX} {D : va_G} {ad : Nat → Nat} {cy : Nat → ClassId} (C : jC X (jMain D ad cy) RX2 cX2_peacefulTenths (some .long) 17 4 95) {z : Int64 × jS} (Q : jRet X (jMain D ad cy) (some (.long z.1), z.2)) {g : Int32 → Int32 → Int32 → Int32 → Int64 → Int64 → Int32 → jS → Option (Int64 × jS)} (hg : ∀ (x1 : Int32) (x3 : Int32) (x4 : Int32) (x5 : Int32) (x6 : Int64) (x8 : Int64) (x10 : Int32) (S : jS), g x1 x3 x4 x5 x6 x8 x10 S = some z → jJ X (jMain D ad cy) 15 [(0, .ref (ad 4)), (1, .int x1), (2, .ref (ad 22)), (3, .int x3), (4, .int x4), (5, .int x5), (6, .long x6), (8, .long x8), (10, .int x10)] [] S) {k188 : Int64 → Int64 → jS → Option (Int64 × jS)} (hk188 : ∀ (x6 : Int64) (x8 : Int64) (S : jS), k188 x6 x8 S = some z → jJ X (jMain D ad cy) 188 [(6, .long x6), (8, .long x8)] [] S) (x1 : Int32) (x3 : Int32) (x4 : Int32) (x5 : Int32) (x6 : Int64) (x8 : Int64) (x10 : Int32) (S : jS) (hE : f_X2_peacefulTenths_r22_15  g k188 x1 x3 x4 x5 x6 x8 x10 S = some z) : jJ X (jMain D ad cy) 15 [(0, .ref (ad 4)), (1, .int x1), (2, .ref (ad 22)), (3, .int x3), (4, .int x4), (5, .int x5), (6, .long x6), (8, .long x8), (10, .int x10)] [] S := by
  unfold f_X2_peacefulTenths_r22_15 at hE
  refine j_iload C dX2_peacefulTenths_15 8 rfl ?_
  refine j_aload_n C dX2_peacefulTenths_17 2 rfl ?_
  refine n_22 C dX2_peacefulTenths_18 ?_
  refine j_icmp_ge (tgt := 188) C dX2_peacefulTenths_19 rfl hE (fun hE => ?_) (fun hE => ?_)
  · refine j_sub [6, 7] rfl ?_
    exact hk188 x6 x8 S hE
  · refine j_aload_n C dX2_peacefulTenths_22 2 rfl ?_
    refine j_iload C dX2_peacefulTenths_23 8 rfl ?_
    refine l_22 C dX2_peacefulTenths_25 hE (fun v1 hE => ?_)
    refine j_istore (lv' := [(11, .int v1), (0, .ref (ad 4)), (1, .int x1), (2, .ref (ad 22)), (3, .int x3), (4, .int x4), (5, .int x5), (6, .long x6), (8, .long x8), (10, .int x10)]) C dX2_peacefulTenths_26 (by decide) rfl ?_
    refine j_iload C dX2_peacefulTenths_28 0 rfl ?_
    refine j_if_eq (tgt := 41) C dX2_peacefulTenths_30 rfl hE (fun hE => ?_) (fun hE => ?_)
    · refine j_sub [1, 2, 3, 4, 5, 6, 7, 8, 9, 0] rfl ?_
      exact p_X2_peacefulTenths_r22_41 C Q hg hk188 x1 x3 x4 x5 x6 x8 x10 v1 S hE
    · refine j_iload C dX2_peacefulTenths_33 0 rfl ?_
      refine j_sipush (v := 300) C dX2_peacefulTenths_35 jc_sp_300 ?_
      refine j_icmp_lt (tgt := 46) C dX2_peacefulTenths_38 rfl hE (fun hE => ?_) (fun hE => ?_)
      · refine j_iload C dX2_peacefulTenths_46 0 rfl ?_
        refine j_iconst (v := 1) C dX2_peacefulTenths_48 jc_ic_1 ?_
        refine j_iadd C dX2_peacefulTenths_49 ?_
        refine j_sub [1, 2, 3, 4, 5, 6, 7, 8, 9, 0] rfl ?_
        exact p_X2_peacefulTenths_r22_50 C Q hg hk188 (v1 + 1) x1 x3 x4 x5 x6 x8 x10 v1 S hE
      · refine j_sub [1, 2, 3, 4, 5, 6, 7, 8, 9, 0] rfl ?_
        exact p_X2_peacefulTenths_r22_41 C Q hg hk188 x1 x3 x4 x5 x6 x8 x10 v1 S hE
theorem q_X2_peacefulTenths_r22_15 {X : jX} {D : va_G} {ad : Nat → Nat} {cy : Nat → ClassId} (C : jC X (jMain D ad cy) RX2 cX2_peacefulTenths (some .long) 17 4 95) {z : Int64 × jS} (Q : jRet X (jMain D ad cy) (some (.long z.1), z.2)) {k188 : Int64 → Int64 → jS → Option (Int64 × jS)} (hk188 : ∀ (x6 : Int64) (x8 : Int64) (S : jS), k188 x6 x8 S = some z → jJ X (jMain D ad cy) 188 [(6, .long x6), (8, .long x8)] [] S) (x1 : Int32) (x3 : Int32) (x4 : Int32) (x5 : Int32) (x6 : Int64) (x8 : Int64) (x10 : Int32) (S : jS) (hE : lp_X2_peacefulTenths_r22_15  k188 x1 x3 x4 x5 x6 x8 x10 S = some z) : jJ X (jMain D ad cy) 15 [(0, .ref (ad 4)), (1, .int x1), (2, .ref (ad 22)), (3, .int x3), (4, .int x4), (5, .int x5), (6, .long x6), (8, .long x8), (10, .int x10)] [] S :=
  jloop_P (α := Int32 × Int32 × Int32 × Int32 × Int64 × Int64 × Int32 × jS) (B := (fun g q => f_X2_peacefulTenths_r22_15  (fun x1 x3 x4 x5 x6 x8 x10 S => g (x1, x3, x4, x5, x6, x8, x10, S)) k188 q.1 q.2.1 q.2.2.1 q.2.2.2.1 q.2.2.2.2.1 q.2.2.2.2.2.1 q.2.2.2.2.2.2.1 q.2.2.2.2.2.2.2)) (P := fun q => jJ X (jMain D ad cy) 15 [(0, .ref (ad 4)), (1, .int q.1), (2, .ref (ad 22)), (3, .int q.2.1), (4, .int q.2.2.1), (5, .int q.2.2.2.1), (6, .long q.2.2.2.2.1), (8, .long q.2.2.2.2.2.1), (10, .int q.2.2.2.2.2.2.1)] [] q.2.2.2.2.2.2.2) (fun g q hg h => p_X2_peacefulTenths_r22_15 C Q (g := fun x1 x3 x4 x5 x6 x8 x10 S => g (x1, x3, x4, x5, x6, x8, x10, S)) (fun x1 x3 x4 x5 x6 x8 x10 S h => hg (x1, x3, x4, x5, x6, x8, x10, S) h) hk188 q.1 q.2.1 q.2.2.1 q.2.2.2.1 q.2.2.2.2.1 q.2.2.2.2.2.1 q.2.2.2.2.2.2.1 q.2.2.2.2.2.2.2 h) jN (x1, x3, x4, x5, x6, x8, x10, S) hE
set_option maxRecDepth 100000 in
theorem p_X2_peacefulTenths_r22_188 {X : jX} {D : va_G} {ad : Nat → Nat} {cy : Nat → ClassId} (C : jC X (jMain D ad cy) RX2 cX2_peacefulTenths (some .long) 17 4 95) {z : Int64 × jS} (Q : jRet X (jMain D ad cy) (some (.long z.1), z.2))  (x6 : Int64) (x8 : Int64) (S : jS) (hE : f_X2_peacefulTenths_r22_188   x6 x8 S = some z) : jJ X (jMain D ad cy) 188 [(6, .long x6), (8, .long x8)] [] S := by
  unfold f_X2_peacefulTenths_r22_188 at hE
  refine j_lload C dX2_peacefulTenths_188 0 rfl ?_
  refine j_lload C dX2_peacefulTenths_190 1 rfl ?_
  refine j_ladd C dX2_peacefulTenths_192 ?_
  exact j_lret C Q dX2_peacefulTenths_193 hE
set_option maxRecDepth 100000 in
theorem p_X2_peacefulTenths_r22_e {X : jX} {D : va_G} {ad : Nat → Nat} {cy : Nat → ClassId} (C : jC X (jMain D ad cy) RX2 cX2_peacefulTenths (some .long) 17 4 95) {z : Int64 × jS} (Q : jRet X (jMain D ad cy) (some (.long z.1), z.2))  (x1 : Int32) (x3 : Int32) (S : jS) (hE : f_X2_peacefulTenths_r22_e   x1 x3 S = some z) : jJ X (jMain D ad cy) 0 [(0, .ref (ad 4)), (1, .int x1), (2, .ref (ad 22)), (3, .int x3)] [] S := by
  unfold f_X2_peacefulTenths_r22_e at hE
  refine j_iconst (v := 0) C dX2_peacefulTenths_0 jc_ic_0 ?_
  refine j_istore (lv' := [(4, .int 0), (0, .ref (ad 4)), (1, .int x1), (2, .ref (ad 22)), (3, .int x3)]) C dX2_peacefulTenths_1 (by decide) rfl ?_
  refine j_iconst (v := 0) C dX2_peacefulTenths_3 jc_ic_0 ?_
  refine j_istore (lv' := [(5, .int 0), (4, .int 0), (0, .ref (ad 4)), (1, .int x1), (2, .ref (ad 22)), (3, .int x3)]) C dX2_peacefulTenths_4 (by decide) rfl ?_
  refine j_lconst (v := 1) C dX2_peacefulTenths_6 jc_lc_1 ?_
  refine j_lstore (lv' := [(6, .long 1), (5, .int 0), (4, .int 0), (0, .ref (ad 4)), (1, .int x1), (2, .ref (ad 22)), (3, .int x3)]) C dX2_peacefulTenths_7 (by decide) rfl ?_
  refine j_lconst (v := 0) C dX2_peacefulTenths_9 jc_lc_0 ?_
  refine j_lstore (lv' := [(8, .long 0), (6, .long 1), (5, .int 0), (4, .int 0), (0, .ref (ad 4)), (1, .int x1), (2, .ref (ad 22)), (3, .int x3)]) C dX2_peacefulTenths_10 (by decide) rfl ?_
  refine j_iconst (v := 0) C dX2_peacefulTenths_12 jc_ic_0 ?_
  refine j_istore (lv' := [(10, .int 0), (8, .long 0), (6, .long 1), (5, .int 0), (4, .int 0), (0, .ref (ad 4)), (1, .int x1), (2, .ref (ad 22)), (3, .int x3)]) C dX2_peacefulTenths_13 (by decide) rfl ?_
  refine j_sub [5, 6, 7, 8, 4, 3, 2, 1, 0] rfl ?_
  exact q_X2_peacefulTenths_r22_15 C Q (p_X2_peacefulTenths_r22_188 C Q ) x1 x3 0 0 1 0 0 S hE
theorem c_X2_peacefulTenths_r22 {l : Launch} {D : va_G} {ad : Nat → Nat} {cy : Nat → ClassId} (hO : jOk (jMain D ad cy)) (x1 : Int32) (x3 : Int32) (S : jS) {z : Int64 × jS} (hz : f_X2_peacefulTenths_r22 x1 x3 S = some z) : Met l yX2_peacefulTenths (.code yX2_peacefulTenths cX2_peacefulTenths 17 (some .long) :: jT) { frames := 4, cells := 0, slots := 0, locals := 95 } (va_Pc [.ref (ad 4), .int x1, .ref (ad 22), .int x3] (jInv (jMain D ad cy) S)) (jQ (jMain D ad cy) (some (.long z.1), z.2)) 0 0 (yA (jMain D ad cy)) :=
  jMet hO (by decide +kernel) rfl (Nat.le_of_ble_eq_true rfl) (fun X _ C Q => p_X2_peacefulTenths_r22_e C Q x1 x3 S hz)
theorem k_X11_247_X2_peacefulTenths_r22 {X : jX} {D : va_G} {ad : Nat → Nat} {cy : Nat → ClassId} {cc : ByteArray} {ret : Option FieldType} {nL fr lo pc : Nat} {lv : List (Nat × Value)} {st : List Value} {S : jS} {β : Type} {z : β} (C : jC X (jMain D ad cy) RX11 cc ret nL fr lo) {a0 : Int32} {a2 : Int32} {E : Int64 → jS → Option β} (d : decode cc pc = .ok (.invokevirtual 247, 3)) (hE : jcl (f_X2_peacefulTenths_r22 a0 a2 S) E = some z) (hfr : 5 ≤ fr) (hlo : 131 ≤ lo) (hst : (st.map fun v => v.category).sum ≤ 8) (K : ∀ (v : Int64) (S1 : jS), E v S1 = some z → jJ X (jMain D ad cy) (pc + 3) lv (.long v :: st) S1) : jJ X (jMain D ad cy) pc lv (.int a2 :: .ref (ad 22) :: .int a0 :: .ref (ad 4) :: st) S := by
  obtain ⟨v, h1, h2⟩ := jcl_some hE
  exact j_callV (k := 4) (ci := 2) (T := TX2) (N := 1) (n := 3) (As := [.int a0, .ref (ad 22), .int a2]) C (c_X2_peacefulTenths_r22 C.2.2.2.2.2.2.1 a0 a2 S h1) tw_807 tw_808 tw_809 tw_71 tw_810 (by decide +kernel) rfl (by decide : 4 < 56) rfl rfl hfr hlo hst rfl d (K _ _ h2)
set_option maxRecDepth 100000 in
theorem p_X11_odds_10 {X : jX} {D : va_G} {ad : Nat → Nat} {cy : Nat → ClassId} (C : jC X (jMain D ad cy) RX11 cX11_odds (some .int) 8 5 131) {z : Int32 × jS} (Q : jRet X (jMain D ad cy) (some (.int z.1), z.2))   (S : jS) (hE : f_X11_odds_10    S = some z) : jJ X (jMain D ad cy) 10 [(0, .ref (ad 0))] [] S := by
  unfold f_X11_odds_10 at hE
  refine j_aload_n C dX11_odds_10 0 rfl ?_
  refine k_X11_74_X11_refuseBad C dX11_odds_11 hE (Nat.le_of_ble_eq_true rfl) (Nat.le_of_ble_eq_true rfl) (Nat.le_of_ble_eq_true rfl) (fun v2 S1 hE => ?_)
  exact j_iret C Q dX11_odds_14 hE
set_option maxRecDepth 100000 in
theorem p_X11_odds_50 {X : jX} {D : va_G} {ad : Nat → Nat} {cy : Nat → ClassId} (C : jC X (jMain D ad cy) RX11 cX11_odds (some .int) 8 5 131) {z : Int32 × jS} (Q : jRet X (jMain D ad cy) (some (.int z.1), z.2)) {g : Int64 → Int64 → Int32 → jS → Option (Int32 × jS)} (hg : ∀ (x2 : Int64) (x4 : Int64) (x6 : Int32) (S : jS), g x2 x4 x6 S = some z → jJ X (jMain D ad cy) 50 [(0, .ref (ad 0)), (2, .long x2), (4, .long x4), (6, .int x6)] [] S) {k69 : Int64 → Int64 → jS → Option (Int32 × jS)} (hk69 : ∀ (x2 : Int64) (x4 : Int64) (S : jS), k69 x2 x4 S = some z → jJ X (jMain D ad cy) 69 [(0, .ref (ad 0)), (2, .long x2), (4, .long x4)] [] S) (x2 : Int64) (x4 : Int64) (x6 : Int32) (S : jS) (hE : f_X11_odds_50  g k69 x2 x4 x6 S = some z) : jJ X (jMain D ad cy) 50 [(0, .ref (ad 0)), (2, .long x2), (4, .long x4), (6, .int x6)] [] S := by
  unfold f_X11_odds_50 at hE
  refine j_iload C dX11_odds_50 3 rfl ?_
  refine j_if_le (tgt := 69) C dX11_odds_52 rfl hE (fun hE => ?_) (fun hE => ?_)
  · refine j_sub [0, 1, 2] rfl ?_
    exact hk69 x2 x4 S hE
  · refine j_lload C dX11_odds_55 2 rfl ?_
    refine j_ldc2 (v := 10) C dX11_odds_57 tw_811 ?_
    refine j_lmul C dX11_odds_60 ?_
    refine j_lstore (lv' := [(4, .long (x4 * 10)), (0, .ref (ad 0)), (2, .long x2), (6, .int x6)]) C dX11_odds_61 (by decide) rfl ?_
    refine j_iinc (v := (x6 + (-1))) (lv' := [(6, .int (x6 + (-1))), (4, .long (x4 * 10)), (0, .ref (ad 0)), (2, .long x2)]) C dX11_odds_63 3 rfl (congrArg (fun w => x6 + w) jc_ic_m1) (by decide) rfl ?_
    refine j_goto (tgt := 50) C dX11_odds_66 rfl ?_
    refine j_sub [2, 3, 1, 0] rfl ?_
    exact hg x2 (x4 * 10) (x6 + (-1)) S hE
theorem q_X11_odds_50 {X : jX} {D : va_G} {ad : Nat → Nat} {cy : Nat → ClassId} (C : jC X (jMain D ad cy) RX11 cX11_odds (some .int) 8 5 131) {z : Int32 × jS} (Q : jRet X (jMain D ad cy) (some (.int z.1), z.2)) {k69 : Int64 → Int64 → jS → Option (Int32 × jS)} (hk69 : ∀ (x2 : Int64) (x4 : Int64) (S : jS), k69 x2 x4 S = some z → jJ X (jMain D ad cy) 69 [(0, .ref (ad 0)), (2, .long x2), (4, .long x4)] [] S) (x2 : Int64) (x4 : Int64) (x6 : Int32) (S : jS) (hE : lp_X11_odds_50  k69 x2 x4 x6 S = some z) : jJ X (jMain D ad cy) 50 [(0, .ref (ad 0)), (2, .long x2), (4, .long x4), (6, .int x6)] [] S :=
  jloop_P (α := Int64 × Int64 × Int32 × jS) (B := (fun g q => f_X11_odds_50  (fun x2 x4 x6 S => g (x2, x4, x6, S)) k69 q.1 q.2.1 q.2.2.1 q.2.2.2)) (P := fun q => jJ X (jMain D ad cy) 50 [(0, .ref (ad 0)), (2, .long q.1), (4, .long q.2.1), (6, .int q.2.2.1)] [] q.2.2.2) (fun g q hg h => p_X11_odds_50 C Q (g := fun x2 x4 x6 S => g (x2, x4, x6, S)) (fun x2 x4 x6 S h => hg (x2, x4, x6, S) h) hk69 q.1 q.2.1 q.2.2.1 q.2.2.2 h) jN (x2, x4, x6, S) hE
set_option maxRecDepth 100000 in
theorem p_X11_odds_101 {X : jX} {D : va_G} {ad : Nat → Nat} {cy : Nat → ClassId} (C : jC X (jMain D ad cy) RX11 cX11_odds (some .int) 8 5 131) {z : Int32 × jS} (Q : jRet X (jMain D ad cy) (some (.int z.1), z.2))   (S : jS) (hE : f_X11_odds_101    S = some z) : jJ X (jMain D ad cy) 101 [] [] S := by
  unfold f_X11_odds_101 at hE
  refine j_iconst (v := 1) C dX11_odds_101 jc_ic_1 ?_
  exact j_iret C Q dX11_odds_102 hE
set_option maxRecDepth 100000 in
theorem p_X11_odds_69 {X : jX} {D : va_G} {ad : Nat → Nat} {cy : Nat → ClassId} (C : jC X (jMain D ad cy) RX11 cX11_odds (some .int) 8 5 131) {z : Int32 × jS} (Q : jRet X (jMain D ad cy) (some (.int z.1), z.2))  (x2 : Int64) (x4 : Int64) (S : jS) (hE : f_X11_odds_69   x2 x4 S = some z) : jJ X (jMain D ad cy) 69 [(0, .ref (ad 0)), (2, .long x2), (4, .long x4)] [] S := by
  unfold f_X11_odds_69 at hE
  refine j_lload C dX11_odds_69 2 rfl ?_
  refine j_lload_n C dX11_odds_71 1 rfl ?_
  refine k_X11_253_X11_commonDivisor C dX11_odds_72 hE (Nat.le_of_ble_eq_true rfl) (Nat.le_of_ble_eq_true rfl) (Nat.le_of_ble_eq_true rfl) (fun v2 S1 hE => ?_)
  refine j_lstore (lv' := [(6, .long v2), (0, .ref (ad 0)), (2, .long x2), (4, .long x4)]) C dX11_odds_75 (by decide) rfl ?_
  refine j_lload C dX11_odds_77 0 rfl ?_
  refine j_lconst (v := 0) C dX11_odds_79 jc_lc_0 ?_
  refine j_lcmp C dX11_odds_80 ?_
  refine j_if_le (tgt := 101) C dX11_odds_81 rfl hE (fun hE => ?_) (fun hE => ?_)
  · refine j_sub [] rfl ?_
    exact p_X11_odds_101 C Q   S1 hE
  · refine j_aload_n C dX11_odds_84 1 rfl ?_
    refine j_lload_n C dX11_odds_85 2 rfl ?_
    refine j_lload C dX11_odds_86 0 rfl ?_
    refine j_ldiv C dX11_odds_88 hE (fun v3 hE => ?_)
    refine p_X11_257_0 C dX11_odds_89 hE (fun S4 hE => ?_)
    refine j_aload_n C dX11_odds_92 1 rfl ?_
    refine j_lload C dX11_odds_93 3 rfl ?_
    refine j_lload C dX11_odds_95 0 rfl ?_
    refine j_ldiv C dX11_odds_97 hE (fun v5 hE => ?_)
    refine p_X11_66_0 C dX11_odds_98 hE (fun S6 hE => ?_)
    refine j_sub [] rfl ?_
    exact p_X11_odds_101 C Q   S6 hE
set_option maxRecDepth 100000 in
theorem p_X11_odds_e {X : jX} {D : va_G} {ad : Nat → Nat} {cy : Nat → ClassId} (C : jC X (jMain D ad cy) RX11 cX11_odds (some .int) 8 5 131) {z : Int32 × jS} (Q : jRet X (jMain D ad cy) (some (.int z.1), z.2))  (x1 : Int32) (S : jS) (hE : f_X11_odds_e   x1 S = some z) : jJ X (jMain D ad cy) 0 [(0, .ref (ad 0)), (1, .int x1)] [] S := by
  unfold f_X11_odds_e at hE
  refine j_iload_n C dX11_odds_0 1 rfl ?_
  refine j_if_lt (tgt := 10) C dX11_odds_1 rfl hE (fun hE => ?_) (fun hE => ?_)
  · refine j_sub [0] rfl ?_
    exact p_X11_odds_10 C Q   S hE
  · refine j_iload_n C dX11_odds_4 1 rfl ?_
    refine j_bipush (v := 10) C dX11_odds_5 jc_bp_10 ?_
    refine j_icmp_le (tgt := 15) C dX11_odds_7 rfl hE (fun hE => ?_) (fun hE => ?_)
    · refine j_aload_n C dX11_odds_15 0 rfl ?_
      refine g_X11_21_0 C dX11_odds_16 ?_
      refine j_aload_n C dX11_odds_19 0 rfl ?_
      refine g_X11_44_0 C dX11_odds_20 ?_
      refine g_X11_85_21 C dX11_odds_23 ?_
      refine j_aload_n C dX11_odds_26 0 rfl ?_
      refine g_X11_44_0 C dX11_odds_27 ?_
      refine g_X11_96_21 C dX11_odds_30 ?_
      refine j_iload_n C dX11_odds_33 1 rfl ?_
      refine k_X11_247_X2_peacefulTenths_r22 C dX11_odds_34 hE (Nat.le_of_ble_eq_true rfl) (Nat.le_of_ble_eq_true rfl) (Nat.le_of_ble_eq_true rfl) (fun v2 S1 hE => ?_)
      refine j_lstore_n (i := 2) (lv' := [(2, .long v2), (0, .ref (ad 0)), (1, .int x1)]) C dX11_odds_37 rfl (by decide) rfl ?_
      refine j_lconst (v := 1) C dX11_odds_38 jc_lc_1 ?_
      refine j_lstore (lv' := [(4, .long 1), (2, .long v2), (0, .ref (ad 0)), (1, .int x1)]) C dX11_odds_39 (by decide) rfl ?_
      refine j_aload_n C dX11_odds_41 2 rfl ?_
      refine g_X11_44_0 C dX11_odds_42 ?_
      refine k_X11_78_X10_living C dX11_odds_45 hE (Nat.le_of_ble_eq_true rfl) (Nat.le_of_ble_eq_true rfl) (Nat.le_of_ble_eq_true rfl) (fun v4 S3 hE => ?_)
      refine j_istore (lv' := [(6, .int v4), (4, .long 1), (2, .long v2), (0, .ref (ad 0)), (1, .int x1)]) C dX11_odds_48 (by decide) rfl ?_
      refine j_sub [3, 2, 1, 0] rfl ?_
      exact q_X11_odds_50 C Q (p_X11_odds_69 C Q ) v2 1 v4 S3 hE
    · refine j_sub [0] rfl ?_
      exact p_X11_odds_10 C Q   S hE
theorem c_X11_odds {l : Launch} {D : va_G} {ad : Nat → Nat} {cy : Nat → ClassId} (hO : jOk (jMain D ad cy)) (x1 : Int32) (S : jS) {z : Int32 × jS} (hz : f_X11_odds x1 S = some z) : Met l yX11_odds (.code yX11_odds cX11_odds 8 (some .int) :: jT) { frames := 5, cells := 0, slots := 0, locals := 131 } (va_Pc [.ref (ad 0), .int x1] (jInv (jMain D ad cy) S)) (jQ (jMain D ad cy) (some (.int z.1), z.2)) 0 0 (yA (jMain D ad cy)) :=
  jMet hO (by decide +kernel) rfl (Nat.le_of_ble_eq_true rfl) (fun X _ C Q => p_X11_odds_e C Q x1 S hz)
set_option maxRecDepth 100000 in
theorem p_X12_streets_24 {X : jX} {D : va_G} {ad : Nat → Nat} {cy : Nat → ClassId} (C : jC X (jMain D ad cy) RX12 cX12_streets (some .int) 8 5 113) {z : Int32 × jS} (Q : jRet X (jMain D ad cy) (some (.int z.1), z.2))   (S : jS) (hE : f_X12_streets_24    S = some z) : jJ X (jMain D ad cy) 24 [(0, .ref (ad 41))] [] S := by
  unfold f_X12_streets_24 at hE
  refine j_aload_n C dX12_streets_24 0 rfl ?_
  refine j_bipush (v := (-2)) C dX12_streets_25 jc_bp_m2 ?_
  refine k_X12_87_X12_bad C dX12_streets_27 hE (Nat.le_of_ble_eq_true rfl) (Nat.le_of_ble_eq_true rfl) (Nat.le_of_ble_eq_true rfl) (fun v2 S1 hE => ?_)
  exact j_iret C Q dX12_streets_30 hE
set_option maxRecDepth 100000 in
theorem p_X12_streets_49 {X : jX} {D : va_G} {ad : Nat → Nat} {cy : Nat → ClassId} (C : jC X (jMain D ad cy) RX12 cX12_streets (some .int) 8 5 113) {z : Int32 × jS} (Q : jRet X (jMain D ad cy) (some (.int z.1), z.2)) {g : Int32 → Int64 → Int32 → Int32 → Int32 → jS → Option (Int32 × jS)} (hg : ∀ (x2 : Int32) (x3 : Int64) (x5 : Int32) (x6 : Int32) (x7 : Int32) (S : jS), g x2 x3 x5 x6 x7 S = some z → jJ X (jMain D ad cy) 49 [(0, .ref (ad 41)), (2, .int x2), (3, .long x3), (5, .int x5), (6, .int x6), (7, .int x7)] [] S) {k93 : Int32 → Int64 → Int32 → Int32 → jS → Option (Int32 × jS)} (hk93 : ∀ (x2 : Int32) (x3 : Int64) (x5 : Int32) (x6 : Int32) (S : jS), k93 x2 x3 x5 x6 S = some z → jJ X (jMain D ad cy) 93 [(0, .ref (ad 41)), (2, .int x2), (3, .long x3), (5, .int x5), (6, .int x6)] [] S) (x2 : Int32) (x3 : Int64) (x5 : Int32) (x6 : Int32) (x7 : Int32) (S : jS) (hE : f_X12_streets_49  g k93 x2 x3 x5 x6 x7 S = some z) : jJ X (jMain D ad cy) 49 [(0, .ref (ad 41)), (2, .int x2), (3, .long x3), (5, .int x5), (6, .int x6), (7, .int x7)] [] S := by
  unfold f_X12_streets_49 at hE
  refine j_iload C dX12_streets_49 5 rfl ?_
  refine j_bipush (v := 8) C dX12_streets_51 jc_bp_8 ?_
  refine j_icmp_ge (tgt := 93) C dX12_streets_53 rfl hE (fun hE => ?_) (fun hE => ?_)
  · refine j_sub [0, 1, 2, 3, 4] rfl ?_
    exact hk93 x2 x3 x5 x6 S hE
  · refine j_lload_n C dX12_streets_56 2 rfl ?_
    refine j_ldc2 (v := 1103515245) C dX12_streets_57 tw_1209 ?_
    refine j_lmul C dX12_streets_60 ?_
    refine j_ldc2 (v := 12345) C dX12_streets_61 tw_1210 ?_
    refine j_ladd C dX12_streets_64 ?_
    refine j_ldc2 (v := 2147483648) C dX12_streets_65 tw_1211 ?_
    refine j_lrem C dX12_streets_68 hE (fun v1 hE => ?_)
    refine j_lstore_n (i := 3) (lv' := [(3, .long v1), (0, .ref (ad 41)), (2, .int x2), (5, .int x5), (6, .int x6), (7, .int x7)]) C dX12_streets_69 rfl (by decide) rfl ?_
    refine j_aload_n C dX12_streets_70 1 rfl ?_
    refine g_X12_30_41 C dX12_streets_71 ?_
    refine j_iload C dX12_streets_74 5 rfl ?_
    refine j_lload_n C dX12_streets_76 0 rfl ?_
    refine j_ldc2 (v := 65536) C dX12_streets_77 tw_1212 ?_
    refine j_ldiv C dX12_streets_80 hE (fun v2 hE => ?_)
    refine j_ldc2 (v := 301) C dX12_streets_81 tw_1213 ?_
    refine j_lrem C dX12_streets_84 hE (fun v3 hE => ?_)
    refine j_l2i C dX12_streets_85 ?_
    refine s_47 C dX12_streets_86 hE (fun S4 hE => ?_)
    refine j_iinc (v := (x7 + 1)) (lv' := [(7, .int (x7 + 1)), (3, .long v1), (0, .ref (ad 41)), (2, .int x2), (5, .int x5), (6, .int x6)]) C dX12_streets_87 5 rfl (congrArg (fun w => x7 + w) jc_ic_1) (by decide) rfl ?_
    refine j_goto (tgt := 49) C dX12_streets_90 rfl ?_
    refine j_sub [2, 3, 1, 4, 5, 0] rfl ?_
    exact hg x2 v1 x5 x6 (x7 + 1) S4 hE
theorem q_X12_streets_49 {X : jX} {D : va_G} {ad : Nat → Nat} {cy : Nat → ClassId} (C : jC X (jMain D ad cy) RX12 cX12_streets (some .int) 8 5 113) {z : Int32 × jS} (Q : jRet X (jMain D ad cy) (some (.int z.1), z.2)) {k93 : Int32 → Int64 → Int32 → Int32 → jS → Option (Int32 × jS)} (hk93 : ∀ (x2 : Int32) (x3 : Int64) (x5 : Int32) (x6 : Int32) (S : jS), k93 x2 x3 x5 x6 S = some z → jJ X (jMain D ad cy) 93 [(0, .ref (ad 41)), (2, .int x2), (3, .long x3), (5, .int x5), (6, .int x6)] [] S) (x2 : Int32) (x3 : Int64) (x5 : Int32) (x6 : Int32) (x7 : Int32) (S : jS) (hE : lp_X12_streets_49  k93 x2 x3 x5 x6 x7 S = some z) : jJ X (jMain D ad cy) 49 [(0, .ref (ad 41)), (2, .int x2), (3, .long x3), (5, .int x5), (6, .int x6), (7, .int x7)] [] S :=
  jloop_P (α := Int32 × Int64 × Int32 × Int32 × Int32 × jS) (B := (fun g q => f_X12_streets_49  (fun x2 x3 x5 x6 x7 S => g (x2, x3, x5, x6, x7, S)) k93 q.1 q.2.1 q.2.2.1 q.2.2.2.1 q.2.2.2.2.1 q.2.2.2.2.2)) (P := fun q => jJ X (jMain D ad cy) 49 [(0, .ref (ad 41)), (2, .int q.1), (3, .long q.2.1), (5, .int q.2.2.1), (6, .int q.2.2.2.1), (7, .int q.2.2.2.2.1)] [] q.2.2.2.2.2) (fun g q hg h => p_X12_streets_49 C Q (g := fun x2 x3 x5 x6 x7 S => g (x2, x3, x5, x6, x7, S)) (fun x2 x3 x5 x6 x7 S h => hg (x2, x3, x5, x6, x7, S) h) hk93 q.1 q.2.1 q.2.2.1 q.2.2.2.1 q.2.2.2.2.1 q.2.2.2.2.2 h) jN (x2, x3, x5, x6, x7, S) hE
set_option maxRecDepth 100000 in
theorem p_X12_streets_107 {X : jX} {D : va_G} {ad : Nat → Nat} {cy : Nat → ClassId} (C : jC X (jMain D ad cy) RX12 cX12_streets (some .int) 8 5 113) {z : Int32 × jS} (Q : jRet X (jMain D ad cy) (some (.int z.1), z.2)) {g : Int32 → Int64 → Int32 → Int32 → jS → Option (Int32 × jS)} (hg : ∀ (x2 : Int32) (x3 : Int64) (x5 : Int32) (x6 : Int32) (S : jS), g x2 x3 x5 x6 S = some z → jJ X (jMain D ad cy) 40 [(0, .ref (ad 41)), (2, .int x2), (3, .long x3), (5, .int x5), (6, .int x6)] [] S) {k116 : Int32 → jS → Option (Int32 × jS)} (hk116 : ∀ (x5 : Int32) (S : jS), k116 x5 S = some z → jJ X (jMain D ad cy) 116 [(5, .int x5)] [] S) (a0 : Int32) (a1 : Int32) (x2 : Int32) (x3 : Int64) (x6 : Int32) (S : jS) (hE : f_X12_streets_107  g k116 a0 a1 x2 x3 x6 S = some z) : jJ X (jMain D ad cy) 107 [(0, .ref (ad 41)), (2, .int x2), (3, .long x3), (6, .int x6)] [.int a0, .int a1] S := by
  unfold f_X12_streets_107 at hE
  refine j_iadd C dX12_streets_107 ?_
  refine j_istore (lv' := [(5, .int (a1 + a0)), (0, .ref (ad 41)), (2, .int x2), (3, .long x3), (6, .int x6)]) C dX12_streets_108 (by decide) rfl ?_
  refine j_iinc (v := (x6 + 1)) (lv' := [(6, .int (x6 + 1)), (5, .int (a1 + a0)), (0, .ref (ad 41)), (2, .int x2), (3, .long x3)]) C dX12_streets_110 4 rfl (congrArg (fun w => x6 + w) jc_ic_1) (by decide) rfl ?_
  refine j_goto (tgt := 40) C dX12_streets_113 rfl ?_
  refine j_sub [2, 3, 4, 1, 0] rfl ?_
  exact hg x2 x3 (a1 + a0) (x6 + 1) S hE
set_option maxRecDepth 100000 in
theorem p_X12_streets_93 {X : jX} {D : va_G} {ad : Nat → Nat} {cy : Nat → ClassId} (C : jC X (jMain D ad cy) RX12 cX12_streets (some .int) 8 5 113) {z : Int32 × jS} (Q : jRet X (jMain D ad cy) (some (.int z.1), z.2)) {g : Int32 → Int64 → Int32 → Int32 → jS → Option (Int32 × jS)} (hg : ∀ (x2 : Int32) (x3 : Int64) (x5 : Int32) (x6 : Int32) (S : jS), g x2 x3 x5 x6 S = some z → jJ X (jMain D ad cy) 40 [(0, .ref (ad 41)), (2, .int x2), (3, .long x3), (5, .int x5), (6, .int x6)] [] S) {k116 : Int32 → jS → Option (Int32 × jS)} (hk116 : ∀ (x5 : Int32) (S : jS), k116 x5 S = some z → jJ X (jMain D ad cy) 116 [(5, .int x5)] [] S) (x2 : Int32) (x3 : Int64) (x5 : Int32) (x6 : Int32) (S : jS) (hE : f_X12_streets_93  g k116 x2 x3 x5 x6 S = some z) : jJ X (jMain D ad cy) 93 [(0, .ref (ad 41)), (2, .int x2), (3, .long x3), (5, .int x5), (6, .int x6)] [] S := by
  unfold f_X12_streets_93 at hE
  refine j_iload C dX12_streets_93 3 rfl ?_
  refine j_aload_n C dX12_streets_95 0 rfl ?_
  refine k_X12_134_X12_manyQuarrels C dX12_streets_96 hE (Nat.le_of_ble_eq_true rfl) (Nat.le_of_ble_eq_true rfl) (Nat.le_of_ble_eq_true rfl) (fun v2 S1 hE => ?_)
  refine j_if_ne (tgt := 106) C dX12_streets_99 rfl hE (fun hE => ?_) (fun hE => ?_)
  · refine j_iconst (v := 0) C dX12_streets_106 jc_ic_0 ?_
    refine j_sub [0, 1, 2, 4] rfl ?_
    exact p_X12_streets_107 C Q hg hk116 0 x5 x2 x3 x6 S1 hE
  · refine j_iconst (v := 1) C dX12_streets_102 jc_ic_1 ?_
    refine j_goto (tgt := 107) C dX12_streets_103 rfl ?_
    refine j_sub [0, 1, 2, 4] rfl ?_
    exact p_X12_streets_107 C Q hg hk116 1 x5 x2 x3 x6 S1 hE
set_option maxRecDepth 100000 in
theorem p_X12_streets_40 {X : jX} {D : va_G} {ad : Nat → Nat} {cy : Nat → ClassId} (C : jC X (jMain D ad cy) RX12 cX12_streets (some .int) 8 5 113) {z : Int32 × jS} (Q : jRet X (jMain D ad cy) (some (.int z.1), z.2)) {g : Int32 → Int64 → Int32 → Int32 → jS → Option (Int32 × jS)} (hg : ∀ (x2 : Int32) (x3 : Int64) (x5 : Int32) (x6 : Int32) (S : jS), g x2 x3 x5 x6 S = some z → jJ X (jMain D ad cy) 40 [(0, .ref (ad 41)), (2, .int x2), (3, .long x3), (5, .int x5), (6, .int x6)] [] S) {k116 : Int32 → jS → Option (Int32 × jS)} (hk116 : ∀ (x5 : Int32) (S : jS), k116 x5 S = some z → jJ X (jMain D ad cy) 116 [(5, .int x5)] [] S) (x2 : Int32) (x3 : Int64) (x5 : Int32) (x6 : Int32) (S : jS) (hE : f_X12_streets_40  g k116 x2 x3 x5 x6 S = some z) : jJ X (jMain D ad cy) 40 [(0, .ref (ad 41)), (2, .int x2), (3, .long x3), (5, .int x5), (6, .int x6)] [] S := by
  unfold f_X12_streets_40 at hE
  refine j_iload C dX12_streets_40 4 rfl ?_
  refine j_iload_n C dX12_streets_42 1 rfl ?_
  refine j_icmp_ge (tgt := 116) C dX12_streets_43 rfl hE (fun hE => ?_) (fun hE => ?_)
  · refine j_sub [3] rfl ?_
    exact hk116 x5 S hE
  · refine j_iconst (v := 0) C dX12_streets_46 jc_ic_0 ?_
    refine j_istore (lv' := [(7, .int 0), (0, .ref (ad 41)), (2, .int x2), (3, .long x3), (5, .int x5), (6, .int x6)]) C dX12_streets_47 (by decide) rfl ?_
    refine j_sub [1, 2, 3, 4, 5, 0] rfl ?_
    exact q_X12_streets_49 C Q (p_X12_streets_93 C Q hg hk116) x2 x3 x5 x6 0 S hE
theorem q_X12_streets_40 {X : jX} {D : va_G} {ad : Nat → Nat} {cy : Nat → ClassId} (C : jC X (jMain D ad cy) RX12 cX12_streets (some .int) 8 5 113) {z : Int32 × jS} (Q : jRet X (jMain D ad cy) (some (.int z.1), z.2)) {k116 : Int32 → jS → Option (Int32 × jS)} (hk116 : ∀ (x5 : Int32) (S : jS), k116 x5 S = some z → jJ X (jMain D ad cy) 116 [(5, .int x5)] [] S) (x2 : Int32) (x3 : Int64) (x5 : Int32) (x6 : Int32) (S : jS) (hE : lp_X12_streets_40  k116 x2 x3 x5 x6 S = some z) : jJ X (jMain D ad cy) 40 [(0, .ref (ad 41)), (2, .int x2), (3, .long x3), (5, .int x5), (6, .int x6)] [] S :=
  jloop_P (α := Int32 × Int64 × Int32 × Int32 × jS) (B := (fun g q => f_X12_streets_40  (fun x2 x3 x5 x6 S => g (x2, x3, x5, x6, S)) k116 q.1 q.2.1 q.2.2.1 q.2.2.2.1 q.2.2.2.2)) (P := fun q => jJ X (jMain D ad cy) 40 [(0, .ref (ad 41)), (2, .int q.1), (3, .long q.2.1), (5, .int q.2.2.1), (6, .int q.2.2.2.1)] [] q.2.2.2.2) (fun g q hg h => p_X12_streets_40 C Q (g := fun x2 x3 x5 x6 S => g (x2, x3, x5, x6, S)) (fun x2 x3 x5 x6 S h => hg (x2, x3, x5, x6, S) h) hk116 q.1 q.2.1 q.2.2.1 q.2.2.2.1 q.2.2.2.2 h) jN (x2, x3, x5, x6, S) hE
set_option maxRecDepth 100000 in
theorem p_X12_streets_116 {X : jX} {D : va_G} {ad : Nat → Nat} {cy : Nat → ClassId} (C : jC X (jMain D ad cy) RX12 cX12_streets (some .int) 8 5 113) {z : Int32 × jS} (Q : jRet X (jMain D ad cy) (some (.int z.1), z.2))  (x5 : Int32) (S : jS) (hE : f_X12_streets_116   x5 S = some z) : jJ X (jMain D ad cy) 116 [(5, .int x5)] [] S := by
  unfold f_X12_streets_116 at hE
  refine j_iload C dX12_streets_116 0 rfl ?_
  exact j_iret C Q dX12_streets_118 hE
set_option maxRecDepth 100000 in
theorem p_X12_streets_e {X : jX} {D : va_G} {ad : Nat → Nat} {cy : Nat → ClassId} (C : jC X (jMain D ad cy) RX12 cX12_streets (some .int) 8 5 113) {z : Int32 × jS} (Q : jRet X (jMain D ad cy) (some (.int z.1), z.2))  (x1 : Int32) (x2 : Int32) (S : jS) (hE : f_X12_streets_e   x1 x2 S = some z) : jJ X (jMain D ad cy) 0 [(0, .ref (ad 41)), (1, .int x1), (2, .int x2)] [] S := by
  unfold f_X12_streets_e at hE
  refine j_iload_n C dX12_streets_0 1 rfl ?_
  refine j_i2l C dX12_streets_1 ?_
  refine j_lconst (v := 0) C dX12_streets_2 jc_lc_0 ?_
  refine j_ldc2 (v := 999999) C dX12_streets_3 tw_1207 ?_
  refine k_X12_59_X12_in C dX12_streets_6 hE (Nat.le_of_ble_eq_true rfl) (Nat.le_of_ble_eq_true rfl) (Nat.le_of_ble_eq_true rfl) (fun v2 S1 hE => ?_)
  refine j_if_eq (tgt := 24) C dX12_streets_9 rfl hE (fun hE => ?_) (fun hE => ?_)
  · refine j_sub [0] rfl ?_
    exact p_X12_streets_24 C Q   S1 hE
  · refine j_iload_n C dX12_streets_12 2 rfl ?_
    refine j_i2l C dX12_streets_13 ?_
    refine j_lconst (v := 0) C dX12_streets_14 jc_lc_0 ?_
    refine j_ldc2 (v := 30) C dX12_streets_15 tw_1208 ?_
    refine k_X12_59_X12_in C dX12_streets_18 hE (Nat.le_of_ble_eq_true rfl) (Nat.le_of_ble_eq_true rfl) (Nat.le_of_ble_eq_true rfl) (fun v4 S3 hE => ?_)
    refine j_if_ne (tgt := 31) C dX12_streets_21 rfl hE (fun hE => ?_) (fun hE => ?_)
    · refine j_iload_n C dX12_streets_31 1 rfl ?_
      refine j_i2l C dX12_streets_32 ?_
      refine j_lstore_n (i := 3) (lv' := [(3, .long x1.toInt64), (0, .ref (ad 41)), (1, .int x1), (2, .int x2)]) C dX12_streets_33 rfl (by decide) rfl ?_
      refine j_iconst (v := 0) C dX12_streets_34 jc_ic_0 ?_
      refine j_istore (lv' := [(5, .int 0), (3, .long x1.toInt64), (0, .ref (ad 41)), (1, .int x1), (2, .int x2)]) C dX12_streets_35 (by decide) rfl ?_
      refine j_iconst (v := 0) C dX12_streets_37 jc_ic_0 ?_
      refine j_istore (lv' := [(6, .int 0), (5, .int 0), (3, .long x1.toInt64), (0, .ref (ad 41)), (1, .int x1), (2, .int x2)]) C dX12_streets_38 (by decide) rfl ?_
      refine j_sub [3, 5, 2, 1, 0] rfl ?_
      exact q_X12_streets_40 C Q (p_X12_streets_116 C Q ) x2 x1.toInt64 0 0 S3 hE
    · refine j_sub [0] rfl ?_
      exact p_X12_streets_24 C Q   S3 hE
theorem c_X12_streets {l : Launch} {D : va_G} {ad : Nat → Nat} {cy : Nat → ClassId} (hO : jOk (jMain D ad cy)) (x1 : Int32) (x2 : Int32) (S : jS) {z : Int32 × jS} (hz : f_X12_streets x1 x2 S = some z) : Met l yX12_streets (.code yX12_streets cX12_streets 8 (some .int) :: jT) { frames := 5, cells := 0, slots := 0, locals := 113 } (va_Pc [.ref (ad 41), .int x1, .int x2] (jInv (jMain D ad cy) S)) (jQ (jMain D ad cy) (some (.int z.1), z.2)) 0 0 (yA (jMain D ad cy)) :=
  jMet hO (by decide +kernel) rfl (Nat.le_of_ble_eq_true rfl) (fun X _ C Q => p_X12_streets_e C Q x1 x2 S hz)
set_option maxRecDepth 100000 in
theorem p_X11_fillTrial_5 {X : jX} {D : va_G} {ad : Nat → Nat} {cy : Nat → ClassId} (C : jC X (jMain D ad cy) RX11 cX11_fillTrial (some .long) 6 0 0) {z : Int64 × jS} (Q : jRet X (jMain D ad cy) (some (.long z.1), z.2)) {g : Int64 → Int32 → jS → Option (Int64 × jS)} (hg : ∀ (x3 : Int64) (x5 : Int32) (S : jS), g x3 x5 S = some z → jJ X (jMain D ad cy) 5 [(0, .ref (ad 0)), (3, .long x3), (5, .int x5)] [] S) {k49 : Int64 → jS → Option (Int64 × jS)} (hk49 : ∀ (x3 : Int64) (S : jS), k49 x3 S = some z → jJ X (jMain D ad cy) 49 [(3, .long x3)] [] S) (x3 : Int64) (x5 : Int32) (S : jS) (hE : f_X11_fillTrial_5  g k49 x3 x5 S = some z) : jJ X (jMain D ad cy) 5 [(0, .ref (ad 0)), (3, .long x3), (5, .int x5)] [] S := by
  unfold f_X11_fillTrial_5 at hE
  refine j_iload C dX11_fillTrial_5 2 rfl ?_
  refine j_bipush (v := 8) C dX11_fillTrial_7 jc_bp_8 ?_
  refine j_icmp_ge (tgt := 49) C dX11_fillTrial_9 rfl hE (fun hE => ?_) (fun hE => ?_)
  · refine j_sub [1] rfl ?_
    exact hk49 x3 S hE
  · refine j_lload_n C dX11_fillTrial_12 1 rfl ?_
    refine j_ldc2 (v := 1103515245) C dX11_fillTrial_13 tw_821 ?_
    refine j_lmul C dX11_fillTrial_16 ?_
    refine j_ldc2 (v := 12345) C dX11_fillTrial_17 tw_822 ?_
    refine j_ladd C dX11_fillTrial_20 ?_
    refine j_ldc2 (v := 2147483648) C dX11_fillTrial_21 tw_823 ?_
    refine j_lrem C dX11_fillTrial_24 hE (fun v1 hE => ?_)
    refine j_lstore_n (i := 3) (lv' := [(3, .long v1), (0, .ref (ad 0)), (5, .int x5)]) C dX11_fillTrial_25 rfl (by decide) rfl ?_
    refine j_aload_n C dX11_fillTrial_26 1 rfl ?_
    refine g_X11_56_0 C dX11_fillTrial_27 ?_
    refine j_iload C dX11_fillTrial_30 2 rfl ?_
    refine j_lload_n C dX11_fillTrial_32 0 rfl ?_
    refine j_ldc2 (v := 65536) C dX11_fillTrial_33 tw_824 ?_
    refine j_ldiv C dX11_fillTrial_36 hE (fun v2 hE => ?_)
    refine j_ldc2 (v := 301) C dX11_fillTrial_37 tw_825 ?_
    refine j_lrem C dX11_fillTrial_40 hE (fun v3 hE => ?_)
    refine j_l2i C dX11_fillTrial_41 ?_
    refine s_38 C dX11_fillTrial_42 hE (fun S4 hE => ?_)
    refine j_iinc (v := (x5 + 1)) (lv' := [(5, .int (x5 + 1)), (3, .long v1), (0, .ref (ad 0))]) C dX11_fillTrial_43 2 rfl (congrArg (fun w => x5 + w) jc_ic_1) (by decide) rfl ?_
    refine j_goto (tgt := 5) C dX11_fillTrial_46 rfl ?_
    refine j_sub [2, 1, 0] rfl ?_
    exact hg v1 (x5 + 1) S4 hE
theorem q_X11_fillTrial_5 {X : jX} {D : va_G} {ad : Nat → Nat} {cy : Nat → ClassId} (C : jC X (jMain D ad cy) RX11 cX11_fillTrial (some .long) 6 0 0) {z : Int64 × jS} (Q : jRet X (jMain D ad cy) (some (.long z.1), z.2)) {k49 : Int64 → jS → Option (Int64 × jS)} (hk49 : ∀ (x3 : Int64) (S : jS), k49 x3 S = some z → jJ X (jMain D ad cy) 49 [(3, .long x3)] [] S) (x3 : Int64) (x5 : Int32) (S : jS) (hE : lp_X11_fillTrial_5  k49 x3 x5 S = some z) : jJ X (jMain D ad cy) 5 [(0, .ref (ad 0)), (3, .long x3), (5, .int x5)] [] S :=
  jloop_P (α := Int64 × Int32 × jS) (B := (fun g q => f_X11_fillTrial_5  (fun x3 x5 S => g (x3, x5, S)) k49 q.1 q.2.1 q.2.2)) (P := fun q => jJ X (jMain D ad cy) 5 [(0, .ref (ad 0)), (3, .long q.1), (5, .int q.2.1)] [] q.2.2) (fun g q hg h => p_X11_fillTrial_5 C Q (g := fun x3 x5 S => g (x3, x5, S)) (fun x3 x5 S h => hg (x3, x5, S) h) hk49 q.1 q.2.1 q.2.2 h) jN (x3, x5, S) hE
set_option maxRecDepth 100000 in
theorem p_X11_fillTrial_49 {X : jX} {D : va_G} {ad : Nat → Nat} {cy : Nat → ClassId} (C : jC X (jMain D ad cy) RX11 cX11_fillTrial (some .long) 6 0 0) {z : Int64 × jS} (Q : jRet X (jMain D ad cy) (some (.long z.1), z.2))  (x3 : Int64) (S : jS) (hE : f_X11_fillTrial_49   x3 S = some z) : jJ X (jMain D ad cy) 49 [(3, .long x3)] [] S := by
  unfold f_X11_fillTrial_49 at hE
  refine j_lload_n C dX11_fillTrial_49 0 rfl ?_
  exact j_lret C Q dX11_fillTrial_50 hE
set_option maxRecDepth 100000 in
theorem p_X11_fillTrial_e {X : jX} {D : va_G} {ad : Nat → Nat} {cy : Nat → ClassId} (C : jC X (jMain D ad cy) RX11 cX11_fillTrial (some .long) 6 0 0) {z : Int64 × jS} (Q : jRet X (jMain D ad cy) (some (.long z.1), z.2))  (x1 : Int64) (S : jS) (hE : f_X11_fillTrial_e   x1 S = some z) : jJ X (jMain D ad cy) 0 [(0, .ref (ad 0)), (1, .long x1)] [] S := by
  unfold f_X11_fillTrial_e at hE
  refine j_lload_n C dX11_fillTrial_0 1 rfl ?_
  refine j_lstore_n (i := 3) (lv' := [(3, .long x1), (0, .ref (ad 0)), (1, .long x1)]) C dX11_fillTrial_1 rfl (by decide) rfl ?_
  refine j_iconst (v := 0) C dX11_fillTrial_2 jc_ic_0 ?_
  refine j_istore (lv' := [(5, .int 0), (3, .long x1), (0, .ref (ad 0)), (1, .long x1)]) C dX11_fillTrial_3 (by decide) rfl ?_
  refine j_sub [2, 1, 0] rfl ?_
  exact q_X11_fillTrial_5 C Q (p_X11_fillTrial_49 C Q ) x1 0 S hE
theorem c_X11_fillTrial {l : Launch} {D : va_G} {ad : Nat → Nat} {cy : Nat → ClassId} (hO : jOk (jMain D ad cy)) (x1 : Int64) (S : jS) {z : Int64 × jS} (hz : f_X11_fillTrial x1 S = some z) : Met l yX11_fillTrial (.code yX11_fillTrial cX11_fillTrial 6 (some .long) :: jT) { frames := 0, cells := 0, slots := 0, locals := 0 } (va_Pc [.ref (ad 0), .long x1] (jInv (jMain D ad cy) S)) (jQ (jMain D ad cy) (some (.long z.1), z.2)) 0 0 (yA (jMain D ad cy)) :=
  jMet hO (by decide +kernel) rfl (Nat.le_of_ble_eq_true rfl) (fun X _ C Q => p_X11_fillTrial_e C Q x1 S hz)
theorem k_X11_261_X11_fillTrial {X : jX} {D : va_G} {ad : Nat → Nat} {cy : Nat → ClassId} {cc : ByteArray} {ret : Option FieldType} {nL fr lo pc : Nat} {lv : List (Nat × Value)} {st : List Value} {S : jS} {β : Type} {z : β} (C : jC X (jMain D ad cy) RX11 cc ret nL fr lo) {a0 : Int64} {E : Int64 → jS → Option β} (d : decode cc pc = .ok (.invokevirtual 261, 3)) (hE : jcl (f_X11_fillTrial a0 S) E = some z) (hfr : 1 ≤ fr) (hlo : 25 ≤ lo) (hst : (st.map fun v => v.category).sum ≤ 8) (K : ∀ (v : Int64) (S1 : jS), E v S1 = some z → jJ X (jMain D ad cy) (pc + 3) lv (.long v :: st) S1) : jJ X (jMain D ad cy) pc lv (.long a0 :: .ref (ad 0) :: st) S := by
  obtain ⟨v, h1, h2⟩ := jcl_some hE
  exact j_callV (k := 0) (ci := 11) (T := TX11) (N := 16) (n := 1) (As := [.long a0]) C (c_X11_fillTrial C.2.2.2.2.2.2.1 a0 S h1) tw_817 tw_819 tw_29 tw_69 tw_820 (by decide +kernel) rfl (by decide : 0 < 56) rfl rfl hfr hlo hst rfl d (K _ _ h2)
set_option maxRecDepth 100000 in
theorem p_X11_streets_21 {X : jX} {D : va_G} {ad : Nat → Nat} {cy : Nat → ClassId} (C : jC X (jMain D ad cy) RX11 cX11_streets (some .int) 7 5 119) {z : Int32 × jS} (Q : jRet X (jMain D ad cy) (some (.int z.1), z.2))   (S : jS) (hE : f_X11_streets_21    S = some z) : jJ X (jMain D ad cy) 21 [(0, .ref (ad 0))] [] S := by
  unfold f_X11_streets_21 at hE
  refine j_aload_n C dX11_streets_21 0 rfl ?_
  refine k_X11_74_X11_refuseBad C dX11_streets_22 hE (Nat.le_of_ble_eq_true rfl) (Nat.le_of_ble_eq_true rfl) (Nat.le_of_ble_eq_true rfl) (fun v2 S1 hE => ?_)
  exact j_iret C Q dX11_streets_25 hE
set_option maxRecDepth 100000 in
theorem p_X11_streets_71 {X : jX} {D : va_G} {ad : Nat → Nat} {cy : Nat → ClassId} (C : jC X (jMain D ad cy) RX11 cX11_streets (some .int) 7 5 119) {z : Int32 × jS} (Q : jRet X (jMain D ad cy) (some (.int z.1), z.2)) {g : Int32 → Int64 → Int32 → Int32 → jS → Option (Int32 × jS)} (hg : ∀ (x2 : Int32) (x3 : Int64) (x5 : Int32) (x6 : Int32) (S : jS), g x2 x3 x5 x6 S = some z → jJ X (jMain D ad cy) 35 [(0, .ref (ad 0)), (2, .int x2), (3, .long x3), (5, .int x5), (6, .int x6)] [] S) {k77 : Int32 → jS → Option (Int32 × jS)} (hk77 : ∀ (x5 : Int32) (S : jS), k77 x5 S = some z → jJ X (jMain D ad cy) 77 [(5, .int x5)] [] S) (x2 : Int32) (x3 : Int64) (x5 : Int32) (x6 : Int32) (S : jS) (hE : f_X11_streets_71  g k77 x2 x3 x5 x6 S = some z) : jJ X (jMain D ad cy) 71 [(0, .ref (ad 0)), (2, .int x2), (3, .long x3), (5, .int x5), (6, .int x6)] [] S := by
  unfold f_X11_streets_71 at hE
  refine j_iinc (v := (x6 + 1)) (lv' := [(6, .int (x6 + 1)), (0, .ref (ad 0)), (2, .int x2), (3, .long x3), (5, .int x5)]) C dX11_streets_71 4 rfl (congrArg (fun w => x6 + w) jc_ic_1) (by decide) rfl ?_
  refine j_goto (tgt := 35) C dX11_streets_74 rfl ?_
  refine j_sub [1, 2, 3, 4, 0] rfl ?_
  exact hg x2 x3 x5 (x6 + 1) S hE
set_option maxRecDepth 100000 in
theorem p_X11_streets_35 {X : jX} {D : va_G} {ad : Nat → Nat} {cy : Nat → ClassId} (C : jC X (jMain D ad cy) RX11 cX11_streets (some .int) 7 5 119) {z : Int32 × jS} (Q : jRet X (jMain D ad cy) (some (.int z.1), z.2)) {g : Int32 → Int64 → Int32 → Int32 → jS → Option (Int32 × jS)} (hg : ∀ (x2 : Int32) (x3 : Int64) (x5 : Int32) (x6 : Int32) (S : jS), g x2 x3 x5 x6 S = some z → jJ X (jMain D ad cy) 35 [(0, .ref (ad 0)), (2, .int x2), (3, .long x3), (5, .int x5), (6, .int x6)] [] S) {k77 : Int32 → jS → Option (Int32 × jS)} (hk77 : ∀ (x5 : Int32) (S : jS), k77 x5 S = some z → jJ X (jMain D ad cy) 77 [(5, .int x5)] [] S) (x2 : Int32) (x3 : Int64) (x5 : Int32) (x6 : Int32) (S : jS) (hE : f_X11_streets_35  g k77 x2 x3 x5 x6 S = some z) : jJ X (jMain D ad cy) 35 [(0, .ref (ad 0)), (2, .int x2), (3, .long x3), (5, .int x5), (6, .int x6)] [] S := by
  unfold f_X11_streets_35 at hE
  refine j_iload C dX11_streets_35 4 rfl ?_
  refine j_iload_n C dX11_streets_37 1 rfl ?_
  refine j_icmp_ge (tgt := 77) C dX11_streets_38 rfl hE (fun hE => ?_) (fun hE => ?_)
  · refine j_sub [3] rfl ?_
    exact hk77 x5 S hE
  · refine j_aload_n C dX11_streets_41 0 rfl ?_
    refine j_lload_n C dX11_streets_42 2 rfl ?_
    refine k_X11_261_X11_fillTrial C dX11_streets_43 hE (Nat.le_of_ble_eq_true rfl) (Nat.le_of_ble_eq_true rfl) (Nat.le_of_ble_eq_true rfl) (fun v2 S1 hE => ?_)
    refine j_lstore_n (i := 3) (lv' := [(3, .long v2), (0, .ref (ad 0)), (2, .int x2), (5, .int x5), (6, .int x6)]) C dX11_streets_46 rfl (by decide) rfl ?_
    refine j_aload_n C dX11_streets_47 1 rfl ?_
    refine g_X11_21_0 C dX11_streets_48 ?_
    refine j_aload_n C dX11_streets_51 1 rfl ?_
    refine g_X11_44_0 C dX11_streets_52 ?_
    refine g_X11_85_21 C dX11_streets_55 ?_
    refine j_aload_n C dX11_streets_58 1 rfl ?_
    refine g_X11_56_0 C dX11_streets_59 ?_
    refine k_X11_146_X2_quarrelling_r38 C dX11_streets_62 hE (Nat.le_of_ble_eq_true rfl) (Nat.le_of_ble_eq_true rfl) (Nat.le_of_ble_eq_true rfl) (fun v4 S3 hE => ?_)
    refine j_if_ne (tgt := 71) C dX11_streets_65 rfl hE (fun hE => ?_) (fun hE => ?_)
    · refine j_sub [1, 2, 0, 3, 4] rfl ?_
      exact p_X11_streets_71 C Q hg hk77 x2 v2 x5 x6 S3 hE
    · refine j_iinc (v := (x5 + 1)) (lv' := [(5, .int (x5 + 1)), (3, .long v2), (0, .ref (ad 0)), (2, .int x2), (6, .int x6)]) C dX11_streets_68 3 rfl (congrArg (fun w => x5 + w) jc_ic_1) (by decide) rfl ?_
      refine j_sub [2, 3, 1, 0, 4] rfl ?_
      exact p_X11_streets_71 C Q hg hk77 x2 v2 (x5 + 1) x6 S3 hE
theorem q_X11_streets_35 {X : jX} {D : va_G} {ad : Nat → Nat} {cy : Nat → ClassId} (C : jC X (jMain D ad cy) RX11 cX11_streets (some .int) 7 5 119) {z : Int32 × jS} (Q : jRet X (jMain D ad cy) (some (.int z.1), z.2)) {k77 : Int32 → jS → Option (Int32 × jS)} (hk77 : ∀ (x5 : Int32) (S : jS), k77 x5 S = some z → jJ X (jMain D ad cy) 77 [(5, .int x5)] [] S) (x2 : Int32) (x3 : Int64) (x5 : Int32) (x6 : Int32) (S : jS) (hE : lp_X11_streets_35  k77 x2 x3 x5 x6 S = some z) : jJ X (jMain D ad cy) 35 [(0, .ref (ad 0)), (2, .int x2), (3, .long x3), (5, .int x5), (6, .int x6)] [] S :=
  jloop_P (α := Int32 × Int64 × Int32 × Int32 × jS) (B := (fun g q => f_X11_streets_35  (fun x2 x3 x5 x6 S => g (x2, x3, x5, x6, S)) k77 q.1 q.2.1 q.2.2.1 q.2.2.2.1 q.2.2.2.2)) (P := fun q => jJ X (jMain D ad cy) 35 [(0, .ref (ad 0)), (2, .int q.1), (3, .long q.2.1), (5, .int q.2.2.1), (6, .int q.2.2.2.1)] [] q.2.2.2.2) (fun g q hg h => p_X11_streets_35 C Q (g := fun x2 x3 x5 x6 S => g (x2, x3, x5, x6, S)) (fun x2 x3 x5 x6 S h => hg (x2, x3, x5, x6, S) h) hk77 q.1 q.2.1 q.2.2.1 q.2.2.2.1 q.2.2.2.2 h) jN (x2, x3, x5, x6, S) hE
set_option maxRecDepth 100000 in
theorem p_X11_streets_77 {X : jX} {D : va_G} {ad : Nat → Nat} {cy : Nat → ClassId} (C : jC X (jMain D ad cy) RX11 cX11_streets (some .int) 7 5 119) {z : Int32 × jS} (Q : jRet X (jMain D ad cy) (some (.int z.1), z.2))  (x5 : Int32) (S : jS) (hE : f_X11_streets_77   x5 S = some z) : jJ X (jMain D ad cy) 77 [(5, .int x5)] [] S := by
  unfold f_X11_streets_77 at hE
  refine j_iload C dX11_streets_77 0 rfl ?_
  exact j_iret C Q dX11_streets_79 hE
set_option maxRecDepth 100000 in
theorem p_X11_streets_e {X : jX} {D : va_G} {ad : Nat → Nat} {cy : Nat → ClassId} (C : jC X (jMain D ad cy) RX11 cX11_streets (some .int) 7 5 119) {z : Int32 × jS} (Q : jRet X (jMain D ad cy) (some (.int z.1), z.2))  (x1 : Int32) (x2 : Int32) (S : jS) (hE : f_X11_streets_e   x1 x2 S = some z) : jJ X (jMain D ad cy) 0 [(0, .ref (ad 0)), (1, .int x1), (2, .int x2)] [] S := by
  unfold f_X11_streets_e at hE
  refine j_iload_n C dX11_streets_0 1 rfl ?_
  refine j_if_lt (tgt := 21) C dX11_streets_1 rfl hE (fun hE => ?_) (fun hE => ?_)
  · refine j_sub [0] rfl ?_
    exact p_X11_streets_21 C Q   S hE
  · refine j_iload_n C dX11_streets_4 1 rfl ?_
    refine j_ldcw (v := 999999) C dX11_streets_5 tw_816 ?_
    refine j_icmp_gt (tgt := 21) C dX11_streets_8 rfl hE (fun hE => ?_) (fun hE => ?_)
    · refine j_sub [0] rfl ?_
      exact p_X11_streets_21 C Q   S hE
    · refine j_iload_n C dX11_streets_11 2 rfl ?_
      refine j_if_lt (tgt := 21) C dX11_streets_12 rfl hE (fun hE => ?_) (fun hE => ?_)
      · refine j_sub [0] rfl ?_
        exact p_X11_streets_21 C Q   S hE
      · refine j_iload_n C dX11_streets_15 2 rfl ?_
        refine j_bipush (v := 30) C dX11_streets_16 jc_bp_30 ?_
        refine j_icmp_le (tgt := 26) C dX11_streets_18 rfl hE (fun hE => ?_) (fun hE => ?_)
        · refine j_iload_n C dX11_streets_26 1 rfl ?_
          refine j_i2l C dX11_streets_27 ?_
          refine j_lstore_n (i := 3) (lv' := [(3, .long x1.toInt64), (0, .ref (ad 0)), (1, .int x1), (2, .int x2)]) C dX11_streets_28 rfl (by decide) rfl ?_
          refine j_iconst (v := 0) C dX11_streets_29 jc_ic_0 ?_
          refine j_istore (lv' := [(5, .int 0), (3, .long x1.toInt64), (0, .ref (ad 0)), (1, .int x1), (2, .int x2)]) C dX11_streets_30 (by decide) rfl ?_
          refine j_iconst (v := 0) C dX11_streets_32 jc_ic_0 ?_
          refine j_istore (lv' := [(6, .int 0), (5, .int 0), (3, .long x1.toInt64), (0, .ref (ad 0)), (1, .int x1), (2, .int x2)]) C dX11_streets_33 (by decide) rfl ?_
          refine j_sub [3, 5, 2, 1, 0] rfl ?_
          exact q_X11_streets_35 C Q (p_X11_streets_77 C Q ) x2 x1.toInt64 0 0 S hE
        · refine j_sub [0] rfl ?_
          exact p_X11_streets_21 C Q   S hE
theorem c_X11_streets {l : Launch} {D : va_G} {ad : Nat → Nat} {cy : Nat → ClassId} (hO : jOk (jMain D ad cy)) (x1 : Int32) (x2 : Int32) (S : jS) {z : Int32 × jS} (hz : f_X11_streets x1 x2 S = some z) : Met l yX11_streets (.code yX11_streets cX11_streets 7 (some .int) :: jT) { frames := 5, cells := 0, slots := 0, locals := 119 } (va_Pc [.ref (ad 0), .int x1, .int x2] (jInv (jMain D ad cy) S)) (jQ (jMain D ad cy) (some (.int z.1), z.2)) 0 0 (yA (jMain D ad cy)) :=
  jMet hO (by decide +kernel) rfl (Nat.le_of_ble_eq_true rfl) (fun X _ C Q => p_X11_streets_e C Q x1 x2 S hz)
set_option maxRecDepth 100000 in
theorem p_X12_part_30 {X : jX} {D : va_G} {ad : Nat → Nat} {cy : Nat → ClassId} (C : jC X (jMain D ad cy) RX12 cX12_part (some .long) 2 1 21) {z : Int64 × jS} (Q : jRet X (jMain D ad cy) (some (.long z.1), z.2))  (a0 : Int64) (S : jS) (hE : f_X12_part_30   a0 S = some z) : jJ X (jMain D ad cy) 30 [] [.long a0] S := by
  unfold f_X12_part_30 at hE
  exact j_lret C Q dX12_part_30 hE
set_option maxRecDepth 100000 in
theorem p_X12_part_e {X : jX} {D : va_G} {ad : Nat → Nat} {cy : Nat → ClassId} (C : jC X (jMain D ad cy) RX12 cX12_part (some .long) 2 1 21) {z : Int64 × jS} (Q : jRet X (jMain D ad cy) (some (.long z.1), z.2))  (x1 : Int32) (S : jS) (hE : f_X12_part_e   x1 S = some z) : jJ X (jMain D ad cy) 0 [(0, .ref (ad 41)), (1, .int x1)] [] S := by
  unfold f_X12_part_e at hE
  refine j_iload_n C dX12_part_0 1 rfl ?_
  refine j_if_ne (tgt := 11) C dX12_part_1 rfl hE (fun hE => ?_) (fun hE => ?_)
  · refine j_iload_n C dX12_part_11 1 rfl ?_
    refine j_iconst (v := 1) C dX12_part_12 jc_ic_1 ?_
    refine j_icmp_ne (tgt := 23) C dX12_part_13 rfl hE (fun hE => ?_) (fun hE => ?_)
    · refine j_aload_n C dX12_part_23 0 rfl ?_
      refine j_bipush (v := (-2)) C dX12_part_24 jc_bp_m2 ?_
      refine k_X12_87_X12_bad C dX12_part_26 hE (Nat.le_of_ble_eq_true rfl) (Nat.le_of_ble_eq_true rfl) (Nat.le_of_ble_eq_true rfl) (fun v2 S1 hE => ?_)
      refine j_i2l C dX12_part_29 ?_
      refine j_sub [] rfl ?_
      exact p_X12_part_30 C Q  v2.toInt64 S1 hE
    · refine j_aload_n C dX12_part_16 0 rfl ?_
      refine g_X12_26_41 C dX12_part_17 ?_
      refine j_goto (tgt := 30) C dX12_part_20 rfl ?_
      refine j_sub [] rfl ?_
      exact p_X12_part_30 C Q  (S.2 41 6) S hE
  · refine j_aload_n C dX12_part_4 0 rfl ?_
    refine g_X12_207_41 C dX12_part_5 ?_
    refine j_goto (tgt := 30) C dX12_part_8 rfl ?_
    refine j_sub [] rfl ?_
    exact p_X12_part_30 C Q  (S.2 41 5) S hE
theorem c_X12_part {l : Launch} {D : va_G} {ad : Nat → Nat} {cy : Nat → ClassId} (hO : jOk (jMain D ad cy)) (x1 : Int32) (S : jS) {z : Int64 × jS} (hz : f_X12_part x1 S = some z) : Met l yX12_part (.code yX12_part cX12_part 2 (some .long) :: jT) { frames := 1, cells := 0, slots := 0, locals := 21 } (va_Pc [.ref (ad 41), .int x1] (jInv (jMain D ad cy) S)) (jQ (jMain D ad cy) (some (.long z.1), z.2)) 0 0 (yA (jMain D ad cy)) :=
  jMet hO (by decide +kernel) rfl (Nat.le_of_ble_eq_true rfl) (fun X _ C Q => p_X12_part_e C Q x1 S hz)
set_option maxRecDepth 100000 in
theorem p_X11_part_28 {X : jX} {D : va_G} {ad : Nat → Nat} {cy : Nat → ClassId} (C : jC X (jMain D ad cy) RX11 cX11_part (some .long) 2 1 20) {z : Int64 × jS} (Q : jRet X (jMain D ad cy) (some (.long z.1), z.2))  (a0 : Int64) (S : jS) (hE : f_X11_part_28   a0 S = some z) : jJ X (jMain D ad cy) 28 [] [.long a0] S := by
  unfold f_X11_part_28 at hE
  exact j_lret C Q dX11_part_28 hE
set_option maxRecDepth 100000 in
theorem p_X11_part_e {X : jX} {D : va_G} {ad : Nat → Nat} {cy : Nat → ClassId} (C : jC X (jMain D ad cy) RX11 cX11_part (some .long) 2 1 20) {z : Int64 × jS} (Q : jRet X (jMain D ad cy) (some (.long z.1), z.2))  (x1 : Int32) (S : jS) (hE : f_X11_part_e   x1 S = some z) : jJ X (jMain D ad cy) 0 [(0, .ref (ad 0)), (1, .int x1)] [] S := by
  unfold f_X11_part_e at hE
  refine j_iload_n C dX11_part_0 1 rfl ?_
  refine k_X11_160_X11_isBit C dX11_part_1 hE (Nat.le_of_ble_eq_true rfl) (Nat.le_of_ble_eq_true rfl) (Nat.le_of_ble_eq_true rfl) (fun v2 S1 hE => ?_)
  refine j_if_ne (tgt := 13) C dX11_part_4 rfl hE (fun hE => ?_) (fun hE => ?_)
  · refine j_iload_n C dX11_part_13 1 rfl ?_
    refine j_if_ne (tgt := 24) C dX11_part_14 rfl hE (fun hE => ?_) (fun hE => ?_)
    · refine j_aload_n C dX11_part_24 0 rfl ?_
      refine g_X11_66_0 C dX11_part_25 ?_
      refine j_sub [] rfl ?_
      exact p_X11_part_28 C Q  (S1.2 0 12) S1 hE
    · refine j_aload_n C dX11_part_17 0 rfl ?_
      refine g_X11_257_0 C dX11_part_18 ?_
      refine j_goto (tgt := 28) C dX11_part_21 rfl ?_
      refine j_sub [] rfl ?_
      exact p_X11_part_28 C Q  (S1.2 0 11) S1 hE
  · refine j_aload_n C dX11_part_7 0 rfl ?_
    refine k_X11_74_X11_refuseBad C dX11_part_8 hE (Nat.le_of_ble_eq_true rfl) (Nat.le_of_ble_eq_true rfl) (Nat.le_of_ble_eq_true rfl) (fun v4 S3 hE => ?_)
    refine j_i2l C dX11_part_11 ?_
    exact j_lret C Q dX11_part_12 hE
theorem c_X11_part {l : Launch} {D : va_G} {ad : Nat → Nat} {cy : Nat → ClassId} (hO : jOk (jMain D ad cy)) (x1 : Int32) (S : jS) {z : Int64 × jS} (hz : f_X11_part x1 S = some z) : Met l yX11_part (.code yX11_part cX11_part 2 (some .long) :: jT) { frames := 1, cells := 0, slots := 0, locals := 20 } (va_Pc [.ref (ad 0), .int x1] (jInv (jMain D ad cy) S)) (jQ (jMain D ad cy) (some (.long z.1), z.2)) 0 0 (yA (jMain D ad cy)) :=
  jMet hO (by decide +kernel) rfl (Nat.le_of_ble_eq_true rfl) (fun X _ C Q => p_X11_part_e C Q x1 S hz)
set_option maxRecDepth 100000 in
theorem p_X12_image_19 {X : jX} {D : va_G} {ad : Nat → Nat} {cy : Nat → ClassId} (C : jC X (jMain D ad cy) RX12 cX12_image (some .int) 3 1 25) {z : Int32 × jS} (Q : jRet X (jMain D ad cy) (some (.int z.1), z.2)) {g : Int32 → Int32 → jS → Option (Int32 × jS)} (hg : ∀ (x1 : Int32) (x2 : Int32) (S : jS), g x1 x2 S = some z → jJ X (jMain D ad cy) 19 [(0, .ref (ad 41)), (1, .int x1), (2, .int x2)] [] S) {k50 : Int32 → jS → Option (Int32 × jS)} (hk50 : ∀ (x1 : Int32) (S : jS), k50 x1 S = some z → jJ X (jMain D ad cy) 50 [(0, .ref (ad 41)), (1, .int x1)] [] S) (x1 : Int32) (x2 : Int32) (S : jS) (hE : f_X12_image_19  g k50 x1 x2 S = some z) : jJ X (jMain D ad cy) 19 [(0, .ref (ad 41)), (1, .int x1), (2, .int x2)] [] S := by
  unfold f_X12_image_19 at hE
  refine j_iload_n C dX12_image_19 2 rfl ?_
  refine j_sipush (v := 149) C dX12_image_20 jc_sp_149 ?_
  refine j_icmp_ge (tgt := 50) C dX12_image_23 rfl hE (fun hE => ?_) (fun hE => ?_)
  · refine j_sub [0, 1] rfl ?_
    exact hk50 x1 S hE
  · refine j_aload_n C dX12_image_26 0 rfl ?_
    refine g_X12_13_41 C dX12_image_27 ?_
    refine j_sipush (v := 149) C dX12_image_30 jc_sp_149 ?_
    refine j_iload_n C dX12_image_33 1 rfl ?_
    refine j_imul C dX12_image_34 ?_
    refine j_iload_n C dX12_image_35 2 rfl ?_
    refine j_iadd C dX12_image_36 ?_
    refine j_aload_n C dX12_image_37 0 rfl ?_
    refine g_X12_7_41 C dX12_image_38 ?_
    refine j_iload_n C dX12_image_41 2 rfl ?_
    refine l_42 C dX12_image_42 hE (fun v1 hE => ?_)
    refine s_43 C dX12_image_43 hE (fun S2 hE => ?_)
    refine j_iinc (v := (x2 + 1)) (lv' := [(2, .int (x2 + 1)), (0, .ref (ad 41)), (1, .int x1)]) C dX12_image_44 2 rfl (congrArg (fun w => x2 + w) jc_ic_1) (by decide) rfl ?_
    refine j_goto (tgt := 19) C dX12_image_47 rfl ?_
    refine j_sub [1, 2, 0] rfl ?_
    exact hg x1 (x2 + 1) S2 hE
theorem q_X12_image_19 {X : jX} {D : va_G} {ad : Nat → Nat} {cy : Nat → ClassId} (C : jC X (jMain D ad cy) RX12 cX12_image (some .int) 3 1 25) {z : Int32 × jS} (Q : jRet X (jMain D ad cy) (some (.int z.1), z.2)) {k50 : Int32 → jS → Option (Int32 × jS)} (hk50 : ∀ (x1 : Int32) (S : jS), k50 x1 S = some z → jJ X (jMain D ad cy) 50 [(0, .ref (ad 41)), (1, .int x1)] [] S) (x1 : Int32) (x2 : Int32) (S : jS) (hE : lp_X12_image_19  k50 x1 x2 S = some z) : jJ X (jMain D ad cy) 19 [(0, .ref (ad 41)), (1, .int x1), (2, .int x2)] [] S :=
  jloop_P (α := Int32 × Int32 × jS) (B := (fun g q => f_X12_image_19  (fun x1 x2 S => g (x1, x2, S)) k50 q.1 q.2.1 q.2.2)) (P := fun q => jJ X (jMain D ad cy) 19 [(0, .ref (ad 41)), (1, .int q.1), (2, .int q.2.1)] [] q.2.2) (fun g q hg h => p_X12_image_19 C Q (g := fun x1 x2 S => g (x1, x2, S)) (fun x1 x2 S h => hg (x1, x2, S) h) hk50 q.1 q.2.1 q.2.2 h) jN (x1, x2, S) hE
set_option maxRecDepth 100000 in
theorem p_X12_image_50 {X : jX} {D : va_G} {ad : Nat → Nat} {cy : Nat → ClassId} (C : jC X (jMain D ad cy) RX12 cX12_image (some .int) 3 1 25) {z : Int32 × jS} (Q : jRet X (jMain D ad cy) (some (.int z.1), z.2))  (x1 : Int32) (S : jS) (hE : f_X12_image_50   x1 S = some z) : jJ X (jMain D ad cy) 50 [(0, .ref (ad 41)), (1, .int x1)] [] S := by
  unfold f_X12_image_50 at hE
  refine j_aload_n C dX12_image_50 0 rfl ?_
  refine g_X12_16_41 C dX12_image_51 ?_
  refine j_iload_n C dX12_image_54 1 rfl ?_
  refine j_iconst (v := 1) C dX12_image_55 jc_ic_1 ?_
  refine s_44 C dX12_image_56 hE (fun S1 hE => ?_)
  refine j_iconst (v := 1) C dX12_image_57 jc_ic_1 ?_
  exact j_iret C Q dX12_image_58 hE
set_option maxRecDepth 100000 in
theorem p_X12_image_e {X : jX} {D : va_G} {ad : Nat → Nat} {cy : Nat → ClassId} (C : jC X (jMain D ad cy) RX12 cX12_image (some .int) 3 1 25) {z : Int32 × jS} (Q : jRet X (jMain D ad cy) (some (.int z.1), z.2))  (x1 : Int32) (S : jS) (hE : f_X12_image_e   x1 S = some z) : jJ X (jMain D ad cy) 0 [(0, .ref (ad 41)), (1, .int x1)] [] S := by
  unfold f_X12_image_e at hE
  refine j_iload_n C dX12_image_0 1 rfl ?_
  refine j_i2l C dX12_image_1 ?_
  refine j_lconst (v := 0) C dX12_image_2 jc_lc_0 ?_
  refine j_lconst (v := 1) C dX12_image_3 jc_lc_1 ?_
  refine k_X12_59_X12_in C dX12_image_4 hE (Nat.le_of_ble_eq_true rfl) (Nat.le_of_ble_eq_true rfl) (Nat.le_of_ble_eq_true rfl) (fun v2 S1 hE => ?_)
  refine j_if_ne (tgt := 17) C dX12_image_7 rfl hE (fun hE => ?_) (fun hE => ?_)
  · refine j_iconst (v := 0) C dX12_image_17 jc_ic_0 ?_
    refine j_istore_n (i := 2) (lv' := [(2, .int 0), (0, .ref (ad 41)), (1, .int x1)]) C dX12_image_18 rfl (by decide) rfl ?_
    refine j_sub [1, 2, 0] rfl ?_
    exact q_X12_image_19 C Q (p_X12_image_50 C Q ) x1 0 S1 hE
  · refine j_aload_n C dX12_image_10 0 rfl ?_
    refine j_bipush (v := (-2)) C dX12_image_11 jc_bp_m2 ?_
    refine k_X12_87_X12_bad C dX12_image_13 hE (Nat.le_of_ble_eq_true rfl) (Nat.le_of_ble_eq_true rfl) (Nat.le_of_ble_eq_true rfl) (fun v4 S3 hE => ?_)
    exact j_iret C Q dX12_image_16 hE
theorem c_X12_image {l : Launch} {D : va_G} {ad : Nat → Nat} {cy : Nat → ClassId} (hO : jOk (jMain D ad cy)) (x1 : Int32) (S : jS) {z : Int32 × jS} (hz : f_X12_image x1 S = some z) : Met l yX12_image (.code yX12_image cX12_image 3 (some .int) :: jT) { frames := 1, cells := 0, slots := 0, locals := 25 } (va_Pc [.ref (ad 41), .int x1] (jInv (jMain D ad cy) S)) (jQ (jMain D ad cy) (some (.int z.1), z.2)) 0 0 (yA (jMain D ad cy)) :=
  jMet hO (by decide +kernel) rfl (Nat.le_of_ble_eq_true rfl) (fun X _ C Q => p_X12_image_e C Q x1 S hz)
set_option maxRecDepth 100000 in
theorem p_X11_imageAt_19 {X : jX} {D : va_G} {ad : Nat → Nat} {cy : Nat → ClassId} (C : jC X (jMain D ad cy) RX11 cX11_imageAt (some (.object "OddFridays$State")) 2 0 0) {z : Nat × jS} (Q : jRet X (jMain D ad cy) (some (jrf ad z.1), z.2))   (S : jS) (hE : f_X11_imageAt_19    S = some z) : jJ X (jMain D ad cy) 19 [] [.null] S := by
  unfold f_X11_imageAt_19 at hE
  exact j_aret (r := 0) C Q dX11_imageAt_19 rfl hE
set_option maxRecDepth 100000 in
theorem p_X11_imageAt_18 {X : jX} {D : va_G} {ad : Nat → Nat} {cy : Nat → ClassId} (C : jC X (jMain D ad cy) RX11 cX11_imageAt (some (.object "OddFridays$State")) 2 0 0) {z : Nat × jS} (Q : jRet X (jMain D ad cy) (some (jrf ad z.1), z.2))   (S : jS) (hE : f_X11_imageAt_18    S = some z) : jJ X (jMain D ad cy) 18 [] [] S := by
  unfold f_X11_imageAt_18 at hE
  refine j_null C dX11_imageAt_18 ?_
  exact p_X11_imageAt_19 C Q   S hE
set_option maxRecDepth 100000 in
theorem p_X11_imageAt_19v1 {X : jX} {D : va_G} {ad : Nat → Nat} {cy : Nat → ClassId} (C : jC X (jMain D ad cy) RX11 cX11_imageAt (some (.object "OddFridays$State")) 2 0 0) {z : Nat × jS} (Q : jRet X (jMain D ad cy) (some (jrf ad z.1), z.2))   (S : jS) (hE : f_X11_imageAt_19v1    S = some z) : jJ X (jMain D ad cy) 19 [] [.ref (ad 27)] S := by
  unfold f_X11_imageAt_19v1 at hE
  exact j_aret (r := 27) C Q dX11_imageAt_19 rfl hE
set_option maxRecDepth 100000 in
theorem p_X11_imageAt_19v2 {X : jX} {D : va_G} {ad : Nat → Nat} {cy : Nat → ClassId} (C : jC X (jMain D ad cy) RX11 cX11_imageAt (some (.object "OddFridays$State")) 2 0 0) {z : Nat × jS} (Q : jRet X (jMain D ad cy) (some (jrf ad z.1), z.2))   (S : jS) (hE : f_X11_imageAt_19v2    S = some z) : jJ X (jMain D ad cy) 19 [] [.ref (ad 32)] S := by
  unfold f_X11_imageAt_19v2 at hE
  exact j_aret (r := 32) C Q dX11_imageAt_19 rfl hE
set_option maxRecDepth 100000 in
theorem p_X11_imageAt_e {X : jX} {D : va_G} {ad : Nat → Nat} {cy : Nat → ClassId} (C : jC X (jMain D ad cy) RX11 cX11_imageAt (some (.object "OddFridays$State")) 2 0 0) {z : Nat × jS} (Q : jRet X (jMain D ad cy) (some (jrf ad z.1), z.2))  (x1 : Int32) (S : jS) (hE : f_X11_imageAt_e   x1 S = some z) : jJ X (jMain D ad cy) 0 [(0, .ref (ad 0)), (1, .int x1)] [] S := by
  unfold f_X11_imageAt_e at hE
  refine j_iload_n C dX11_imageAt_0 1 rfl ?_
  refine j_if_lt (tgt := 18) C dX11_imageAt_1 rfl hE (fun hE => ?_) (fun hE => ?_)
  · refine j_sub [] rfl ?_
    exact p_X11_imageAt_18 C Q   S hE
  · refine j_iload_n C dX11_imageAt_4 1 rfl ?_
    refine j_iconst (v := 2) C dX11_imageAt_5 jc_ic_2 ?_
    refine j_icmp_ge (tgt := 18) C dX11_imageAt_6 rfl hE (fun hE => ?_) (fun hE => ?_)
    · refine j_sub [] rfl ?_
      exact p_X11_imageAt_18 C Q   S hE
    · refine j_aload_n C dX11_imageAt_9 0 rfl ?_
      refine g_X11_48_0 C dX11_imageAt_10 ?_
      refine j_iload_n C dX11_imageAt_13 1 rfl ?_
      refine j_case hE (fun e hE2 => ?_) (fun e0 hE => ?_)
      · clear hE
        subst e
        have hE := hE2
        refine a_26_0 C dX11_imageAt_14 ?_
        refine j_goto (tgt := 19) C dX11_imageAt_15 rfl ?_
        refine j_sub [] rfl ?_
        exact p_X11_imageAt_19v1 C Q   S hE
      · skip
        refine j_case hE (fun e hE2 => ?_) (fun e1 hE => ?_)
        · clear hE
          subst e
          have hE := hE2
          refine a_26_1 C dX11_imageAt_14 ?_
          refine j_goto (tgt := 19) C dX11_imageAt_15 rfl ?_
          refine j_sub [] rfl ?_
          exact p_X11_imageAt_19v2 C Q   S hE
        · skip
          cases hE
theorem c_X11_imageAt {l : Launch} {D : va_G} {ad : Nat → Nat} {cy : Nat → ClassId} (hO : jOk (jMain D ad cy)) (x1 : Int32) (S : jS) {z : Nat × jS} (hz : f_X11_imageAt x1 S = some z) : Met l yX11_imageAt (.code yX11_imageAt cX11_imageAt 2 (some (.object "OddFridays$State")) :: jT) { frames := 0, cells := 0, slots := 0, locals := 0 } (va_Pc [.ref (ad 0), .int x1] (jInv (jMain D ad cy) S)) (jQ (jMain D ad cy) (some (jrf ad z.1), z.2)) 0 0 (yA (jMain D ad cy)) :=
  jMet hO (by decide +kernel) rfl (Nat.le_of_ble_eq_true rfl) (fun X _ C Q => p_X11_imageAt_e C Q x1 S hz)
theorem k_X11_265_X11_imageAt {X : jX} {D : va_G} {ad : Nat → Nat} {cy : Nat → ClassId} {cc : ByteArray} {ret : Option FieldType} {nL fr lo pc : Nat} {lv : List (Nat × Value)} {st : List Value} {S : jS} {β : Type} {z : β} (C : jC X (jMain D ad cy) RX11 cc ret nL fr lo) {a0 : Int32} {E : Nat → jS → Option β} (d : decode cc pc = .ok (.invokevirtual 265, 3)) (hE : jcl (f_X11_imageAt a0 S) E = some z) (hfr : 1 ≤ fr) (hlo : 21 ≤ lo) (hst : (st.map fun v => v.category).sum ≤ 8) (K : ∀ (v : Nat) (S1 : jS), E v S1 = some z → jJ X (jMain D ad cy) (pc + 3) lv (jrf ad v :: st) S1) : jJ X (jMain D ad cy) pc lv (.int a0 :: .ref (ad 0) :: st) S := by
  obtain ⟨v, h1, h2⟩ := jcl_some hE
  exact j_callV (k := 0) (ci := 11) (T := TX11) (N := 16) (n := 1) (As := [.int a0]) C (c_X11_imageAt C.2.2.2.2.2.2.1 a0 S h1) tw_834 tw_836 tw_30 tw_69 tw_837 (by decide +kernel) rfl (by decide : 0 < 56) rfl rfl hfr hlo hst rfl d (K _ _ h2)
set_option maxRecDepth 100000 in
theorem p_X10_copyFrom_r27_r21_e {X : jX} {D : va_G} {ad : Nat → Nat} {cy : Nat → ClassId} (C : jC X (jMain D ad cy) RX10 cX10_copyFrom (none) 2 1 48) {z : jS} (Q : jRet X (jMain D ad cy) (none, z))   (S : jS) (hE : f_X10_copyFrom_r27_r21_e    S = some z) : jJ X (jMain D ad cy) 0 [(0, .ref (ad 27)), (1, .ref (ad 21))] [] S := by
  unfold f_X10_copyFrom_r27_r21_e at hE
  refine j_aload_n C dX10_copyFrom_0 1 rfl ?_
  refine g_X10_9_21 C dX10_copyFrom_1 ?_
  refine j_iconst (v := 0) C dX10_copyFrom_4 jc_ic_0 ?_
  refine j_aload_n C dX10_copyFrom_5 0 rfl ?_
  refine g_X10_9_27 C dX10_copyFrom_6 ?_
  refine j_iconst (v := 0) C dX10_copyFrom_9 jc_ic_0 ?_
  refine j_bipush (v := 8) C dX10_copyFrom_10 jc_bp_8 ?_
  refine y_X10_37_22_28 C dX10_copyFrom_12 (Nat.le_of_ble_eq_true rfl) (by decide) hE (fun S1 hE => ?_)
  refine j_aload_n C dX10_copyFrom_15 1 rfl ?_
  refine g_X10_15_21 C dX10_copyFrom_16 ?_
  refine j_iconst (v := 0) C dX10_copyFrom_19 jc_ic_0 ?_
  refine j_aload_n C dX10_copyFrom_20 0 rfl ?_
  refine g_X10_15_27 C dX10_copyFrom_21 ?_
  refine j_iconst (v := 0) C dX10_copyFrom_24 jc_ic_0 ?_
  refine j_bipush (v := 24) C dX10_copyFrom_25 jc_bp_24 ?_
  refine y_X10_37_23_29 C dX10_copyFrom_27 (Nat.le_of_ble_eq_true rfl) (by decide) hE (fun S2 hE => ?_)
  refine j_aload_n C dX10_copyFrom_30 1 rfl ?_
  refine g_X10_18_21 C dX10_copyFrom_31 ?_
  refine j_iconst (v := 0) C dX10_copyFrom_34 jc_ic_0 ?_
  refine j_aload_n C dX10_copyFrom_35 0 rfl ?_
  refine g_X10_18_27 C dX10_copyFrom_36 ?_
  refine j_iconst (v := 0) C dX10_copyFrom_39 jc_ic_0 ?_
  refine j_bipush (v := 24) C dX10_copyFrom_40 jc_bp_24 ?_
  refine y_X10_37_24_30 C dX10_copyFrom_42 (Nat.le_of_ble_eq_true rfl) (by decide) hE (fun S3 hE => ?_)
  refine j_aload_n C dX10_copyFrom_45 1 rfl ?_
  refine g_X10_21_21 C dX10_copyFrom_46 ?_
  refine j_iconst (v := 0) C dX10_copyFrom_49 jc_ic_0 ?_
  refine j_aload_n C dX10_copyFrom_50 0 rfl ?_
  refine g_X10_21_27 C dX10_copyFrom_51 ?_
  refine j_iconst (v := 0) C dX10_copyFrom_54 jc_ic_0 ?_
  refine j_bipush (v := 72) C dX10_copyFrom_55 jc_bp_72 ?_
  refine y_X10_37_25_31 C dX10_copyFrom_57 (Nat.le_of_ble_eq_true rfl) (by decide) hE (fun S4 hE => ?_)
  refine j_aload_n C dX10_copyFrom_60 0 rfl ?_
  refine j_aload_n C dX10_copyFrom_61 1 rfl ?_
  refine g_X10_24_21 C dX10_copyFrom_62 ?_
  refine p_X10_24_27 C dX10_copyFrom_65 hE (fun S5 hE => ?_)
  refine j_aload_n C dX10_copyFrom_68 0 rfl ?_
  refine j_aload_n C dX10_copyFrom_69 1 rfl ?_
  refine g_X10_28_21 C dX10_copyFrom_70 ?_
  refine p_X10_28_27 C dX10_copyFrom_73 hE (fun S6 hE => ?_)
  refine j_aload_n C dX10_copyFrom_76 0 rfl ?_
  refine j_aload_n C dX10_copyFrom_77 1 rfl ?_
  refine g_X10_31_21 C dX10_copyFrom_78 ?_
  refine p_X10_31_27 C dX10_copyFrom_81 hE (fun S7 hE => ?_)
  refine j_aload_n C dX10_copyFrom_84 0 rfl ?_
  refine j_aload_n C dX10_copyFrom_85 1 rfl ?_
  refine g_X10_34_21 C dX10_copyFrom_86 ?_
  refine p_X10_34_27 C dX10_copyFrom_89 hE (fun S8 hE => ?_)
  exact j_vret C Q dX10_copyFrom_92 hE
theorem c_X10_copyFrom_r27_r21 {l : Launch} {D : va_G} {ad : Nat → Nat} {cy : Nat → ClassId} (hO : jOk (jMain D ad cy))  (S : jS) {z : jS} (hz : f_X10_copyFrom_r27_r21  S = some z) : Met l yX10_copyFrom (.code yX10_copyFrom cX10_copyFrom 2 (none) :: jT) { frames := 1, cells := 0, slots := 0, locals := 48 } (va_Pc [.ref (ad 27), .ref (ad 21)] (jInv (jMain D ad cy) S)) (jQ (jMain D ad cy) (none, z)) 0 0 (yA (jMain D ad cy)) :=
  jMet hO (by decide +kernel) rfl (Nat.le_of_ble_eq_true rfl) (fun X _ C Q => p_X10_copyFrom_r27_r21_e C Q  S hz)
theorem k_X11_269_X10_copyFrom_r27_r21 {X : jX} {D : va_G} {ad : Nat → Nat} {cy : Nat → ClassId} {cc : ByteArray} {ret : Option FieldType} {nL fr lo pc : Nat} {lv : List (Nat × Value)} {st : List Value} {S : jS} {β : Type} {z : β} (C : jC X (jMain D ad cy) RX11 cc ret nL fr lo)  {E : jS → Option β} (d : decode cc pc = .ok (.invokevirtual 269, 3)) (hE : jcv (f_X10_copyFrom_r27_r21  S) E = some z) (hfr : 2 ≤ fr) (hlo : 69 ≤ lo) (hst : (st.map fun v => v.category).sum ≤ 8) (K : ∀ S1, E S1 = some z → jJ X (jMain D ad cy) (pc + 3) lv st S1) : jJ X (jMain D ad cy) pc lv (.ref (ad 21) :: .ref (ad 27) :: st) S := by
  obtain ⟨v, h1, h2⟩ := jcv_some hE
  exact j_callV (k := 27) (ci := 10) (T := TX10) (N := 8) (n := 1) (As := [.ref (ad 21)]) C (c_X10_copyFrom_r27_r21 C.2.2.2.2.2.2.1  S h1) tw_838 tw_839 tw_840 tw_80 tw_841 (by decide +kernel) rfl (by decide : 27 < 56) rfl rfl hfr hlo hst rfl d (K _ h2)
set_option maxRecDepth 100000 in
theorem p_X10_copyFrom_r32_r21_e {X : jX} {D : va_G} {ad : Nat → Nat} {cy : Nat → ClassId} (C : jC X (jMain D ad cy) RX10 cX10_copyFrom (none) 2 1 48) {z : jS} (Q : jRet X (jMain D ad cy) (none, z))   (S : jS) (hE : f_X10_copyFrom_r32_r21_e    S = some z) : jJ X (jMain D ad cy) 0 [(0, .ref (ad 32)), (1, .ref (ad 21))] [] S := by
  unfold f_X10_copyFrom_r32_r21_e at hE
  refine j_aload_n C dX10_copyFrom_0 1 rfl ?_
  refine g_X10_9_21 C dX10_copyFrom_1 ?_
  refine j_iconst (v := 0) C dX10_copyFrom_4 jc_ic_0 ?_
  refine j_aload_n C dX10_copyFrom_5 0 rfl ?_
  refine g_X10_9_32 C dX10_copyFrom_6 ?_
  refine j_iconst (v := 0) C dX10_copyFrom_9 jc_ic_0 ?_
  refine j_bipush (v := 8) C dX10_copyFrom_10 jc_bp_8 ?_
  refine y_X10_37_22_33 C dX10_copyFrom_12 (Nat.le_of_ble_eq_true rfl) (by decide) hE (fun S1 hE => ?_)
  refine j_aload_n C dX10_copyFrom_15 1 rfl ?_
  refine g_X10_15_21 C dX10_copyFrom_16 ?_
  refine j_iconst (v := 0) C dX10_copyFrom_19 jc_ic_0 ?_
  refine j_aload_n C dX10_copyFrom_20 0 rfl ?_
  refine g_X10_15_32 C dX10_copyFrom_21 ?_
  refine j_iconst (v := 0) C dX10_copyFrom_24 jc_ic_0 ?_
  refine j_bipush (v := 24) C dX10_copyFrom_25 jc_bp_24 ?_
  refine y_X10_37_23_34 C dX10_copyFrom_27 (Nat.le_of_ble_eq_true rfl) (by decide) hE (fun S2 hE => ?_)
  refine j_aload_n C dX10_copyFrom_30 1 rfl ?_
  refine g_X10_18_21 C dX10_copyFrom_31 ?_
  refine j_iconst (v := 0) C dX10_copyFrom_34 jc_ic_0 ?_
  refine j_aload_n C dX10_copyFrom_35 0 rfl ?_
  refine g_X10_18_32 C dX10_copyFrom_36 ?_
  refine j_iconst (v := 0) C dX10_copyFrom_39 jc_ic_0 ?_
  refine j_bipush (v := 24) C dX10_copyFrom_40 jc_bp_24 ?_
  refine y_X10_37_24_35 C dX10_copyFrom_42 (Nat.le_of_ble_eq_true rfl) (by decide) hE (fun S3 hE => ?_)
  refine j_aload_n C dX10_copyFrom_45 1 rfl ?_
  refine g_X10_21_21 C dX10_copyFrom_46 ?_
  refine j_iconst (v := 0) C dX10_copyFrom_49 jc_ic_0 ?_
  refine j_aload_n C dX10_copyFrom_50 0 rfl ?_
  refine g_X10_21_32 C dX10_copyFrom_51 ?_
  refine j_iconst (v := 0) C dX10_copyFrom_54 jc_ic_0 ?_
  refine j_bipush (v := 72) C dX10_copyFrom_55 jc_bp_72 ?_
  refine y_X10_37_25_36 C dX10_copyFrom_57 (Nat.le_of_ble_eq_true rfl) (by decide) hE (fun S4 hE => ?_)
  refine j_aload_n C dX10_copyFrom_60 0 rfl ?_
  refine j_aload_n C dX10_copyFrom_61 1 rfl ?_
  refine g_X10_24_21 C dX10_copyFrom_62 ?_
  refine p_X10_24_32 C dX10_copyFrom_65 hE (fun S5 hE => ?_)
  refine j_aload_n C dX10_copyFrom_68 0 rfl ?_
  refine j_aload_n C dX10_copyFrom_69 1 rfl ?_
  refine g_X10_28_21 C dX10_copyFrom_70 ?_
  refine p_X10_28_32 C dX10_copyFrom_73 hE (fun S6 hE => ?_)
  refine j_aload_n C dX10_copyFrom_76 0 rfl ?_
  refine j_aload_n C dX10_copyFrom_77 1 rfl ?_
  refine g_X10_31_21 C dX10_copyFrom_78 ?_
  refine p_X10_31_32 C dX10_copyFrom_81 hE (fun S7 hE => ?_)
  refine j_aload_n C dX10_copyFrom_84 0 rfl ?_
  refine j_aload_n C dX10_copyFrom_85 1 rfl ?_
  refine g_X10_34_21 C dX10_copyFrom_86 ?_
  refine p_X10_34_32 C dX10_copyFrom_89 hE (fun S8 hE => ?_)
  exact j_vret C Q dX10_copyFrom_92 hE
theorem c_X10_copyFrom_r32_r21 {l : Launch} {D : va_G} {ad : Nat → Nat} {cy : Nat → ClassId} (hO : jOk (jMain D ad cy))  (S : jS) {z : jS} (hz : f_X10_copyFrom_r32_r21  S = some z) : Met l yX10_copyFrom (.code yX10_copyFrom cX10_copyFrom 2 (none) :: jT) { frames := 1, cells := 0, slots := 0, locals := 48 } (va_Pc [.ref (ad 32), .ref (ad 21)] (jInv (jMain D ad cy) S)) (jQ (jMain D ad cy) (none, z)) 0 0 (yA (jMain D ad cy)) :=
  jMet hO (by decide +kernel) rfl (Nat.le_of_ble_eq_true rfl) (fun X _ C Q => p_X10_copyFrom_r32_r21_e C Q  S hz)
theorem k_X11_269_X10_copyFrom_r32_r21 {X : jX} {D : va_G} {ad : Nat → Nat} {cy : Nat → ClassId} {cc : ByteArray} {ret : Option FieldType} {nL fr lo pc : Nat} {lv : List (Nat × Value)} {st : List Value} {S : jS} {β : Type} {z : β} (C : jC X (jMain D ad cy) RX11 cc ret nL fr lo)  {E : jS → Option β} (d : decode cc pc = .ok (.invokevirtual 269, 3)) (hE : jcv (f_X10_copyFrom_r32_r21  S) E = some z) (hfr : 2 ≤ fr) (hlo : 69 ≤ lo) (hst : (st.map fun v => v.category).sum ≤ 8) (K : ∀ S1, E S1 = some z → jJ X (jMain D ad cy) (pc + 3) lv st S1) : jJ X (jMain D ad cy) pc lv (.ref (ad 21) :: .ref (ad 32) :: st) S := by
  obtain ⟨v, h1, h2⟩ := jcv_some hE
  exact j_callV (k := 32) (ci := 10) (T := TX10) (N := 8) (n := 1) (As := [.ref (ad 21)]) C (c_X10_copyFrom_r32_r21 C.2.2.2.2.2.2.1  S h1) tw_838 tw_839 tw_840 tw_80 tw_841 (by decide +kernel) rfl (by decide : 32 < 56) rfl rfl hfr hlo hst rfl d (K _ h2)
set_option maxRecDepth 100000 in
theorem p_X11_image_e {X : jX} {D : va_G} {ad : Nat → Nat} {cy : Nat → ClassId} (C : jC X (jMain D ad cy) RX11 cX11_image (some .int) 3 2 69) {z : Int32 × jS} (Q : jRet X (jMain D ad cy) (some (.int z.1), z.2))  (x1 : Int32) (S : jS) (hE : f_X11_image_e   x1 S = some z) : jJ X (jMain D ad cy) 0 [(0, .ref (ad 0)), (1, .int x1)] [] S := by
  unfold f_X11_image_e at hE
  refine j_aload_n C dX11_image_0 0 rfl ?_
  refine j_iload_n C dX11_image_1 1 rfl ?_
  refine k_X11_265_X11_imageAt C dX11_image_2 hE (Nat.le_of_ble_eq_true rfl) (Nat.le_of_ble_eq_true rfl) (Nat.le_of_ble_eq_true rfl) (fun v2 S1 hE => ?_)
  refine j_caseN hE (fun e hE2 => ?_) (fun e0 hE => ?_)
  · clear hE
    subst e
    have hE := hE2
    refine j_astore_n (i := 2) (lv' := [(2, .ref (ad 27)), (0, .ref (ad 0)), (1, .int x1)]) C dX11_image_5 rfl (by decide) rfl ?_
    refine j_aload_n C dX11_image_6 0 rfl ?_
    refine j_ifnonnull (tgt := 15) C dX11_image_7 rfl ?_
    refine j_aload_n C dX11_image_15 0 rfl ?_
    refine j_aload_n C dX11_image_16 1 rfl ?_
    refine g_X11_44_0 C dX11_image_17 ?_
    refine k_X11_269_X10_copyFrom_r27_r21 C dX11_image_20 hE (Nat.le_of_ble_eq_true rfl) (Nat.le_of_ble_eq_true rfl) (Nat.le_of_ble_eq_true rfl) (fun S3 hE => ?_)
    refine j_aload_n C dX11_image_23 1 rfl ?_
    refine g_X11_52_0 C dX11_image_24 ?_
    refine j_iload_n C dX11_image_27 2 rfl ?_
    refine j_iconst (v := 1) C dX11_image_28 jc_ic_1 ?_
    refine s_37 C dX11_image_29 hE (fun S4 hE => ?_)
    refine j_iconst (v := 1) C dX11_image_30 jc_ic_1 ?_
    exact j_iret C Q dX11_image_31 hE
  · skip
    refine j_caseN hE (fun e hE2 => ?_) (fun e1 hE => ?_)
    · clear hE
      subst e
      have hE := hE2
      refine j_astore_n (i := 2) (lv' := [(2, .ref (ad 32)), (0, .ref (ad 0)), (1, .int x1)]) C dX11_image_5 rfl (by decide) rfl ?_
      refine j_aload_n C dX11_image_6 0 rfl ?_
      refine j_ifnonnull (tgt := 15) C dX11_image_7 rfl ?_
      refine j_aload_n C dX11_image_15 0 rfl ?_
      refine j_aload_n C dX11_image_16 1 rfl ?_
      refine g_X11_44_0 C dX11_image_17 ?_
      refine k_X11_269_X10_copyFrom_r32_r21 C dX11_image_20 hE (Nat.le_of_ble_eq_true rfl) (Nat.le_of_ble_eq_true rfl) (Nat.le_of_ble_eq_true rfl) (fun S5 hE => ?_)
      refine j_aload_n C dX11_image_23 1 rfl ?_
      refine g_X11_52_0 C dX11_image_24 ?_
      refine j_iload_n C dX11_image_27 2 rfl ?_
      refine j_iconst (v := 1) C dX11_image_28 jc_ic_1 ?_
      refine s_37 C dX11_image_29 hE (fun S6 hE => ?_)
      refine j_iconst (v := 1) C dX11_image_30 jc_ic_1 ?_
      exact j_iret C Q dX11_image_31 hE
    · skip
      refine j_caseN hE (fun e hE2 => ?_) (fun e2 hE => ?_)
      · clear hE
        subst e
        have hE := hE2
        refine j_astore_nN (i := 2) (lv' := [(2, .null), (0, .ref (ad 0)), (1, .int x1)]) C dX11_image_5 rfl (by decide) rfl ?_
        refine j_aload_nN C dX11_image_6 0 rfl ?_
        refine j_ifnonnullN C dX11_image_7 ?_
        refine j_aload_n C dX11_image_10 1 rfl ?_
        refine k_X11_74_X11_refuseBad C dX11_image_11 hE (Nat.le_of_ble_eq_true rfl) (Nat.le_of_ble_eq_true rfl) (Nat.le_of_ble_eq_true rfl) (fun v8 S7 hE => ?_)
        exact j_iret C Q dX11_image_14 hE
      · skip
        cases hE
theorem c_X11_image {l : Launch} {D : va_G} {ad : Nat → Nat} {cy : Nat → ClassId} (hO : jOk (jMain D ad cy)) (x1 : Int32) (S : jS) {z : Int32 × jS} (hz : f_X11_image x1 S = some z) : Met l yX11_image (.code yX11_image cX11_image 3 (some .int) :: jT) { frames := 2, cells := 0, slots := 0, locals := 69 } (va_Pc [.ref (ad 0), .int x1] (jInv (jMain D ad cy) S)) (jQ (jMain D ad cy) (some (.int z.1), z.2)) 0 0 (yA (jMain D ad cy)) :=
  jMet hO (by decide +kernel) rfl (Nat.le_of_ble_eq_true rfl) (fun X _ C Q => p_X11_image_e C Q x1 S hz)
set_option maxRecDepth 100000 in
theorem p_X12_from_33 {X : jX} {D : va_G} {ad : Nat → Nat} {cy : Nat → ClassId} (C : jC X (jMain D ad cy) RX12 cX12_from (some .int) 3 1 25) {z : Int32 × jS} (Q : jRet X (jMain D ad cy) (some (.int z.1), z.2)) {g : Int32 → Int32 → jS → Option (Int32 × jS)} (hg : ∀ (x1 : Int32) (x2 : Int32) (S : jS), g x1 x2 S = some z → jJ X (jMain D ad cy) 33 [(0, .ref (ad 41)), (1, .int x1), (2, .int x2)] [] S) {k64 : jS → Option (Int32 × jS)} (hk64 : ∀  (S : jS), k64  S = some z → jJ X (jMain D ad cy) 64 [] [] S) (x1 : Int32) (x2 : Int32) (S : jS) (hE : f_X12_from_33  g k64 x1 x2 S = some z) : jJ X (jMain D ad cy) 33 [(0, .ref (ad 41)), (1, .int x1), (2, .int x2)] [] S := by
  unfold f_X12_from_33 at hE
  refine j_iload_n C dX12_from_33 2 rfl ?_
  refine j_sipush (v := 149) C dX12_from_34 jc_sp_149 ?_
  refine j_icmp_ge (tgt := 64) C dX12_from_37 rfl hE (fun hE => ?_) (fun hE => ?_)
  · refine j_sub [] rfl ?_
    exact hk64  S hE
  · refine j_aload_n C dX12_from_40 0 rfl ?_
    refine g_X12_7_41 C dX12_from_41 ?_
    refine j_iload_n C dX12_from_44 2 rfl ?_
    refine j_aload_n C dX12_from_45 0 rfl ?_
    refine g_X12_13_41 C dX12_from_46 ?_
    refine j_sipush (v := 149) C dX12_from_49 jc_sp_149 ?_
    refine j_iload_n C dX12_from_52 1 rfl ?_
    refine j_imul C dX12_from_53 ?_
    refine j_iload_n C dX12_from_54 2 rfl ?_
    refine j_iadd C dX12_from_55 ?_
    refine l_43 C dX12_from_56 hE (fun v1 hE => ?_)
    refine s_42 C dX12_from_57 hE (fun S2 hE => ?_)
    refine j_iinc (v := (x2 + 1)) (lv' := [(2, .int (x2 + 1)), (0, .ref (ad 41)), (1, .int x1)]) C dX12_from_58 2 rfl (congrArg (fun w => x2 + w) jc_ic_1) (by decide) rfl ?_
    refine j_goto (tgt := 33) C dX12_from_61 rfl ?_
    refine j_sub [1, 2, 0] rfl ?_
    exact hg x1 (x2 + 1) S2 hE
theorem q_X12_from_33 {X : jX} {D : va_G} {ad : Nat → Nat} {cy : Nat → ClassId} (C : jC X (jMain D ad cy) RX12 cX12_from (some .int) 3 1 25) {z : Int32 × jS} (Q : jRet X (jMain D ad cy) (some (.int z.1), z.2)) {k64 : jS → Option (Int32 × jS)} (hk64 : ∀  (S : jS), k64  S = some z → jJ X (jMain D ad cy) 64 [] [] S) (x1 : Int32) (x2 : Int32) (S : jS) (hE : lp_X12_from_33  k64 x1 x2 S = some z) : jJ X (jMain D ad cy) 33 [(0, .ref (ad 41)), (1, .int x1), (2, .int x2)] [] S :=
  jloop_P (α := Int32 × Int32 × jS) (B := (fun g q => f_X12_from_33  (fun x1 x2 S => g (x1, x2, S)) k64 q.1 q.2.1 q.2.2)) (P := fun q => jJ X (jMain D ad cy) 33 [(0, .ref (ad 41)), (1, .int q.1), (2, .int q.2.1)] [] q.2.2) (fun g q hg h => p_X12_from_33 C Q (g := fun x1 x2 S => g (x1, x2, S)) (fun x1 x2 S h => hg (x1, x2, S) h) hk64 q.1 q.2.1 q.2.2 h) jN (x1, x2, S) hE
set_option maxRecDepth 100000 in
theorem p_X12_from_64 {X : jX} {D : va_G} {ad : Nat → Nat} {cy : Nat → ClassId} (C : jC X (jMain D ad cy) RX12 cX12_from (some .int) 3 1 25) {z : Int32 × jS} (Q : jRet X (jMain D ad cy) (some (.int z.1), z.2))   (S : jS) (hE : f_X12_from_64    S = some z) : jJ X (jMain D ad cy) 64 [] [] S := by
  unfold f_X12_from_64 at hE
  refine j_iconst (v := 1) C dX12_from_64 jc_ic_1 ?_
  exact j_iret C Q dX12_from_65 hE
set_option maxRecDepth 100000 in
theorem p_X12_from_e {X : jX} {D : va_G} {ad : Nat → Nat} {cy : Nat → ClassId} (C : jC X (jMain D ad cy) RX12 cX12_from (some .int) 3 1 25) {z : Int32 × jS} (Q : jRet X (jMain D ad cy) (some (.int z.1), z.2))  (x1 : Int32) (S : jS) (hE : f_X12_from_e   x1 S = some z) : jJ X (jMain D ad cy) 0 [(0, .ref (ad 41)), (1, .int x1)] [] S := by
  unfold f_X12_from_e at hE
  refine j_iload_n C dX12_from_0 1 rfl ?_
  refine j_i2l C dX12_from_1 ?_
  refine j_lconst (v := 0) C dX12_from_2 jc_lc_0 ?_
  refine j_lconst (v := 1) C dX12_from_3 jc_lc_1 ?_
  refine k_X12_59_X12_in C dX12_from_4 hE (Nat.le_of_ble_eq_true rfl) (Nat.le_of_ble_eq_true rfl) (Nat.le_of_ble_eq_true rfl) (fun v2 S1 hE => ?_)
  refine j_if_ne (tgt := 17) C dX12_from_7 rfl hE (fun hE => ?_) (fun hE => ?_)
  · refine j_aload_n C dX12_from_17 0 rfl ?_
    refine g_X12_16_41 C dX12_from_18 ?_
    refine j_iload_n C dX12_from_21 1 rfl ?_
    refine l_44 C dX12_from_22 hE (fun v3 hE => ?_)
    refine j_if_ne (tgt := 31) C dX12_from_23 rfl hE (fun hE => ?_) (fun hE => ?_)
    · refine j_iconst (v := 0) C dX12_from_31 jc_ic_0 ?_
      refine j_istore_n (i := 2) (lv' := [(2, .int 0), (0, .ref (ad 41)), (1, .int x1)]) C dX12_from_32 rfl (by decide) rfl ?_
      refine j_sub [1, 2, 0] rfl ?_
      exact q_X12_from_33 C Q (p_X12_from_64 C Q ) x1 0 S1 hE
    · refine j_aload_n C dX12_from_26 0 rfl ?_
      refine k_X12_111_X12_no C dX12_from_27 hE (Nat.le_of_ble_eq_true rfl) (Nat.le_of_ble_eq_true rfl) (Nat.le_of_ble_eq_true rfl) (fun v5 S4 hE => ?_)
      exact j_iret C Q dX12_from_30 hE
  · refine j_aload_n C dX12_from_10 0 rfl ?_
    refine j_bipush (v := (-2)) C dX12_from_11 jc_bp_m2 ?_
    refine k_X12_87_X12_bad C dX12_from_13 hE (Nat.le_of_ble_eq_true rfl) (Nat.le_of_ble_eq_true rfl) (Nat.le_of_ble_eq_true rfl) (fun v7 S6 hE => ?_)
    exact j_iret C Q dX12_from_16 hE
theorem c_X12_from {l : Launch} {D : va_G} {ad : Nat → Nat} {cy : Nat → ClassId} (hO : jOk (jMain D ad cy)) (x1 : Int32) (S : jS) {z : Int32 × jS} (hz : f_X12_from x1 S = some z) : Met l yX12_from (.code yX12_from cX12_from 3 (some .int) :: jT) { frames := 1, cells := 0, slots := 0, locals := 25 } (va_Pc [.ref (ad 41), .int x1] (jInv (jMain D ad cy) S)) (jQ (jMain D ad cy) (some (.int z.1), z.2)) 0 0 (yA (jMain D ad cy)) :=
  jMet hO (by decide +kernel) rfl (Nat.le_of_ble_eq_true rfl) (fun X _ C Q => p_X12_from_e C Q x1 S hz)
