set_option maxRecDepth 100000 in
theorem p_X10_copyFrom_r27_e {X : jX} {D : va_G} {ad : Nat → Nat} {cy : Nat → ClassId} (C : jC X (jMain D ad cy) RX10 cX10_copyFrom (none) 2 1 48) {z : jS} (Q : jRet X (jMain D ad cy) (none, z))   (S : jS) (hE : f_X10_copyFrom_r27_e    S = some z) : jJ X (jMain D ad cy) 0 [(0, .ref (ad 21)), (1, .ref (ad 27))] [] S := by
  unfold f_X10_copyFrom_r27_e at hE
  refine j_aload_n C dX10_copyFrom_0 1 rfl ?_
  refine g_X10_9_27 C dX10_copyFrom_1 ?_
  refine j_iconst (v := 0) C dX10_copyFrom_4 jc_ic_0 ?_
  refine j_aload_n C dX10_copyFrom_5 0 rfl ?_
  refine g_X10_9_21 C dX10_copyFrom_6 ?_
  refine j_iconst (v := 0) C dX10_copyFrom_9 jc_ic_0 ?_
  refine j_bipush (v := 8) C dX10_copyFrom_10 jc_bp_8 ?_
  refine y_X10_37_28_22 C dX10_copyFrom_12 (Nat.le_of_ble_eq_true rfl) (by decide) hE (fun S1 hE => ?_)
  refine j_aload_n C dX10_copyFrom_15 1 rfl ?_
  refine g_X10_15_27 C dX10_copyFrom_16 ?_
  refine j_iconst (v := 0) C dX10_copyFrom_19 jc_ic_0 ?_
  refine j_aload_n C dX10_copyFrom_20 0 rfl ?_
  refine g_X10_15_21 C dX10_copyFrom_21 ?_
  refine j_iconst (v := 0) C dX10_copyFrom_24 jc_ic_0 ?_
  refine j_bipush (v := 24) C dX10_copyFrom_25 jc_bp_24 ?_
  refine y_X10_37_29_23 C dX10_copyFrom_27 (Nat.le_of_ble_eq_true rfl) (by decide) hE (fun S2 hE => ?_)
  refine j_aload_n C dX10_copyFrom_30 1 rfl ?_
  refine g_X10_18_27 C dX10_copyFrom_31 ?_
  refine j_iconst (v := 0) C dX10_copyFrom_34 jc_ic_0 ?_
  refine j_aload_n C dX10_copyFrom_35 0 rfl ?_
  refine g_X10_18_21 C dX10_copyFrom_36 ?_
  refine j_iconst (v := 0) C dX10_copyFrom_39 jc_ic_0 ?_
  refine j_bipush (v := 24) C dX10_copyFrom_40 jc_bp_24 ?_
  refine y_X10_37_30_24 C dX10_copyFrom_42 (Nat.le_of_ble_eq_true rfl) (by decide) hE (fun S3 hE => ?_)
  refine j_aload_n C dX10_copyFrom_45 1 rfl ?_
  refine g_X10_21_27 C dX10_copyFrom_46 ?_
  refine j_iconst (v := 0) C dX10_copyFrom_49 jc_ic_0 ?_
  refine j_aload_n C dX10_copyFrom_50 0 rfl ?_
  refine g_X10_21_21 C dX10_copyFrom_51 ?_
  refine j_iconst (v := 0) C dX10_copyFrom_54 jc_ic_0 ?_
  refine j_bipush (v := 72) C dX10_copyFrom_55 jc_bp_72 ?_
  refine y_X10_37_31_25 C dX10_copyFrom_57 (Nat.le_of_ble_eq_true rfl) (by decide) hE (fun S4 hE => ?_)
  refine j_aload_n C dX10_copyFrom_60 0 rfl ?_
  refine j_aload_n C dX10_copyFrom_61 1 rfl ?_
  refine g_X10_24_27 C dX10_copyFrom_62 ?_
  refine p_X10_24_21 C dX10_copyFrom_65 hE (fun S5 hE => ?_)
  refine j_aload_n C dX10_copyFrom_68 0 rfl ?_
  refine j_aload_n C dX10_copyFrom_69 1 rfl ?_
  refine g_X10_28_27 C dX10_copyFrom_70 ?_
  refine p_X10_28_21 C dX10_copyFrom_73 hE (fun S6 hE => ?_)
  refine j_aload_n C dX10_copyFrom_76 0 rfl ?_
  refine j_aload_n C dX10_copyFrom_77 1 rfl ?_
  refine g_X10_31_27 C dX10_copyFrom_78 ?_
  refine p_X10_31_21 C dX10_copyFrom_81 hE (fun S7 hE => ?_)
  refine j_aload_n C dX10_copyFrom_84 0 rfl ?_
  refine j_aload_n C dX10_copyFrom_85 1 rfl ?_
  refine g_X10_34_27 C dX10_copyFrom_86 ?_
  refine p_X10_34_21 C dX10_copyFrom_89 hE (fun S8 hE => ?_)
  exact j_vret C Q dX10_copyFrom_92 hE
theorem c_X10_copyFrom_r27 {l : Launch} {D : va_G} {ad : Nat → Nat} {cy : Nat → ClassId} (hO : jOk (jMain D ad cy))  (S : jS) {z : jS} (hz : f_X10_copyFrom_r27  S = some z) : Met l yX10_copyFrom (.code yX10_copyFrom cX10_copyFrom 2 (none) :: jT) { frames := 1, cells := 0, slots := 0, locals := 48 } (va_Pc [.ref (ad 21), .ref (ad 27)] (jInv (jMain D ad cy) S)) (jQ (jMain D ad cy) (none, z)) 0 0 (yA (jMain D ad cy)) :=
  jMet hO (by decide +kernel) rfl (Nat.le_of_ble_eq_true rfl) (fun X _ C Q => p_X10_copyFrom_r27_e C Q  S hz)
theorem k_X11_269_X10_copyFrom_r27 {X : jX} {D : va_G} {ad : Nat → Nat} {cy : Nat → ClassId} {cc : ByteArray} {ret : Option FieldType} {nL fr lo pc : Nat} {lv : List (Nat × Value)} {st : List Value} {S : jS} {β : Type} {z : β} (C : jC X (jMain D ad cy) RX11 cc ret nL fr lo)  {E : jS → Option β} (d : decode cc pc = .ok (.invokevirtual 269, 3)) (hE : jcv (f_X10_copyFrom_r27  S) E = some z) (hfr : 2 ≤ fr) (hlo : 69 ≤ lo) (hst : (st.map fun v => v.category).sum ≤ 8) (K : ∀ S1, E S1 = some z → jJ X (jMain D ad cy) (pc + 3) lv st S1) : jJ X (jMain D ad cy) pc lv (.ref (ad 27) :: .ref (ad 21) :: st) S := by
  obtain ⟨v, h1, h2⟩ := jcv_some hE
  exact j_callV (k := 21) (ci := 10) (T := TX10) (N := 8) (n := 1) (As := [.ref (ad 27)]) C (c_X10_copyFrom_r27 C.2.2.2.2.2.2.1  S h1) tw_838 tw_839 tw_840 tw_80 tw_841 (by decide +kernel) rfl (by decide : 21 < 56) rfl rfl hfr hlo hst rfl d (K _ h2)
set_option maxRecDepth 100000 in
theorem p_X10_copyFrom_r32_e {X : jX} {D : va_G} {ad : Nat → Nat} {cy : Nat → ClassId} (C : jC X (jMain D ad cy) RX10 cX10_copyFrom (none) 2 1 48) {z : jS} (Q : jRet X (jMain D ad cy) (none, z))   (S : jS) (hE : f_X10_copyFrom_r32_e    S = some z) : jJ X (jMain D ad cy) 0 [(0, .ref (ad 21)), (1, .ref (ad 32))] [] S := by
  unfold f_X10_copyFrom_r32_e at hE
  refine j_aload_n C dX10_copyFrom_0 1 rfl ?_
  refine g_X10_9_32 C dX10_copyFrom_1 ?_
  refine j_iconst (v := 0) C dX10_copyFrom_4 jc_ic_0 ?_
  refine j_aload_n C dX10_copyFrom_5 0 rfl ?_
  refine g_X10_9_21 C dX10_copyFrom_6 ?_
  refine j_iconst (v := 0) C dX10_copyFrom_9 jc_ic_0 ?_
  refine j_bipush (v := 8) C dX10_copyFrom_10 jc_bp_8 ?_
  refine y_X10_37_33_22 C dX10_copyFrom_12 (Nat.le_of_ble_eq_true rfl) (by decide) hE (fun S1 hE => ?_)
  refine j_aload_n C dX10_copyFrom_15 1 rfl ?_
  refine g_X10_15_32 C dX10_copyFrom_16 ?_
  refine j_iconst (v := 0) C dX10_copyFrom_19 jc_ic_0 ?_
  refine j_aload_n C dX10_copyFrom_20 0 rfl ?_
  refine g_X10_15_21 C dX10_copyFrom_21 ?_
  refine j_iconst (v := 0) C dX10_copyFrom_24 jc_ic_0 ?_
  refine j_bipush (v := 24) C dX10_copyFrom_25 jc_bp_24 ?_
  refine y_X10_37_34_23 C dX10_copyFrom_27 (Nat.le_of_ble_eq_true rfl) (by decide) hE (fun S2 hE => ?_)
  refine j_aload_n C dX10_copyFrom_30 1 rfl ?_
  refine g_X10_18_32 C dX10_copyFrom_31 ?_
  refine j_iconst (v := 0) C dX10_copyFrom_34 jc_ic_0 ?_
  refine j_aload_n C dX10_copyFrom_35 0 rfl ?_
  refine g_X10_18_21 C dX10_copyFrom_36 ?_
  refine j_iconst (v := 0) C dX10_copyFrom_39 jc_ic_0 ?_
  refine j_bipush (v := 24) C dX10_copyFrom_40 jc_bp_24 ?_
  refine y_X10_37_35_24 C dX10_copyFrom_42 (Nat.le_of_ble_eq_true rfl) (by decide) hE (fun S3 hE => ?_)
  refine j_aload_n C dX10_copyFrom_45 1 rfl ?_
  refine g_X10_21_32 C dX10_copyFrom_46 ?_
  refine j_iconst (v := 0) C dX10_copyFrom_49 jc_ic_0 ?_
  refine j_aload_n C dX10_copyFrom_50 0 rfl ?_
  refine g_X10_21_21 C dX10_copyFrom_51 ?_
  refine j_iconst (v := 0) C dX10_copyFrom_54 jc_ic_0 ?_
  refine j_bipush (v := 72) C dX10_copyFrom_55 jc_bp_72 ?_
  refine y_X10_37_36_25 C dX10_copyFrom_57 (Nat.le_of_ble_eq_true rfl) (by decide) hE (fun S4 hE => ?_)
  refine j_aload_n C dX10_copyFrom_60 0 rfl ?_
  refine j_aload_n C dX10_copyFrom_61 1 rfl ?_
  refine g_X10_24_32 C dX10_copyFrom_62 ?_
  refine p_X10_24_21 C dX10_copyFrom_65 hE (fun S5 hE => ?_)
  refine j_aload_n C dX10_copyFrom_68 0 rfl ?_
  refine j_aload_n C dX10_copyFrom_69 1 rfl ?_
  refine g_X10_28_32 C dX10_copyFrom_70 ?_
  refine p_X10_28_21 C dX10_copyFrom_73 hE (fun S6 hE => ?_)
  refine j_aload_n C dX10_copyFrom_76 0 rfl ?_
  refine j_aload_n C dX10_copyFrom_77 1 rfl ?_
  refine g_X10_31_32 C dX10_copyFrom_78 ?_
  refine p_X10_31_21 C dX10_copyFrom_81 hE (fun S7 hE => ?_)
  refine j_aload_n C dX10_copyFrom_84 0 rfl ?_
  refine j_aload_n C dX10_copyFrom_85 1 rfl ?_
  refine g_X10_34_32 C dX10_copyFrom_86 ?_
  refine p_X10_34_21 C dX10_copyFrom_89 hE (fun S8 hE => ?_)
  exact j_vret C Q dX10_copyFrom_92 hE
theorem c_X10_copyFrom_r32 {l : Launch} {D : va_G} {ad : Nat → Nat} {cy : Nat → ClassId} (hO : jOk (jMain D ad cy))  (S : jS) {z : jS} (hz : f_X10_copyFrom_r32  S = some z) : Met l yX10_copyFrom (.code yX10_copyFrom cX10_copyFrom 2 (none) :: jT) { frames := 1, cells := 0, slots := 0, locals := 48 } (va_Pc [.ref (ad 21), .ref (ad 32)] (jInv (jMain D ad cy) S)) (jQ (jMain D ad cy) (none, z)) 0 0 (yA (jMain D ad cy)) :=
  jMet hO (by decide +kernel) rfl (Nat.le_of_ble_eq_true rfl) (fun X _ C Q => p_X10_copyFrom_r32_e C Q  S hz)
theorem k_X11_269_X10_copyFrom_r32 {X : jX} {D : va_G} {ad : Nat → Nat} {cy : Nat → ClassId} {cc : ByteArray} {ret : Option FieldType} {nL fr lo pc : Nat} {lv : List (Nat × Value)} {st : List Value} {S : jS} {β : Type} {z : β} (C : jC X (jMain D ad cy) RX11 cc ret nL fr lo)  {E : jS → Option β} (d : decode cc pc = .ok (.invokevirtual 269, 3)) (hE : jcv (f_X10_copyFrom_r32  S) E = some z) (hfr : 2 ≤ fr) (hlo : 69 ≤ lo) (hst : (st.map fun v => v.category).sum ≤ 8) (K : ∀ S1, E S1 = some z → jJ X (jMain D ad cy) (pc + 3) lv st S1) : jJ X (jMain D ad cy) pc lv (.ref (ad 32) :: .ref (ad 21) :: st) S := by
  obtain ⟨v, h1, h2⟩ := jcv_some hE
  exact j_callV (k := 21) (ci := 10) (T := TX10) (N := 8) (n := 1) (As := [.ref (ad 32)]) C (c_X10_copyFrom_r32 C.2.2.2.2.2.2.1  S h1) tw_838 tw_839 tw_840 tw_80 tw_841 (by decide +kernel) rfl (by decide : 21 < 56) rfl rfl hfr hlo hst rfl d (K _ h2)
set_option maxRecDepth 100000 in
theorem p_X11_from_e {X : jX} {D : va_G} {ad : Nat → Nat} {cy : Nat → ClassId} (C : jC X (jMain D ad cy) RX11 cX11_from (some .int) 3 2 69) {z : Int32 × jS} (Q : jRet X (jMain D ad cy) (some (.int z.1), z.2))  (x1 : Int32) (S : jS) (hE : f_X11_from_e   x1 S = some z) : jJ X (jMain D ad cy) 0 [(0, .ref (ad 0)), (1, .int x1)] [] S := by
  unfold f_X11_from_e at hE
  refine j_aload_n C dX11_from_0 0 rfl ?_
  refine j_iload_n C dX11_from_1 1 rfl ?_
  refine k_X11_265_X11_imageAt C dX11_from_2 hE (Nat.le_of_ble_eq_true rfl) (Nat.le_of_ble_eq_true rfl) (Nat.le_of_ble_eq_true rfl) (fun v2 S1 hE => ?_)
  refine j_caseN hE (fun e hE2 => ?_) (fun e0 hE => ?_)
  · clear hE
    subst e
    have hE := hE2
    refine j_astore_n (i := 2) (lv' := [(2, .ref (ad 27)), (0, .ref (ad 0)), (1, .int x1)]) C dX11_from_5 rfl (by decide) rfl ?_
    refine j_aload_n C dX11_from_6 0 rfl ?_
    refine j_ifnonnull (tgt := 15) C dX11_from_7 rfl ?_
    refine j_aload_n C dX11_from_15 1 rfl ?_
    refine g_X11_52_0 C dX11_from_16 ?_
    refine j_iload_n C dX11_from_19 2 rfl ?_
    refine l_37 C dX11_from_20 hE (fun v3 hE => ?_)
    refine j_if_ne (tgt := 29) C dX11_from_21 rfl hE (fun hE => ?_) (fun hE => ?_)
    · refine j_aload_n C dX11_from_29 1 rfl ?_
      refine g_X11_44_0 C dX11_from_30 ?_
      refine j_aload_n C dX11_from_33 0 rfl ?_
      refine k_X11_269_X10_copyFrom_r27 C dX11_from_34 hE (Nat.le_of_ble_eq_true rfl) (Nat.le_of_ble_eq_true rfl) (Nat.le_of_ble_eq_true rfl) (fun S4 hE => ?_)
      refine j_iconst (v := 1) C dX11_from_37 jc_ic_1 ?_
      exact j_iret C Q dX11_from_38 hE
    · refine j_aload_n C dX11_from_24 1 rfl ?_
      refine k_X11_99_X11_refuseNo C dX11_from_25 hE (Nat.le_of_ble_eq_true rfl) (Nat.le_of_ble_eq_true rfl) (Nat.le_of_ble_eq_true rfl) (fun v6 S5 hE => ?_)
      exact j_iret C Q dX11_from_28 hE
  · skip
    refine j_caseN hE (fun e hE2 => ?_) (fun e1 hE => ?_)
    · clear hE
      subst e
      have hE := hE2
      refine j_astore_n (i := 2) (lv' := [(2, .ref (ad 32)), (0, .ref (ad 0)), (1, .int x1)]) C dX11_from_5 rfl (by decide) rfl ?_
      refine j_aload_n C dX11_from_6 0 rfl ?_
      refine j_ifnonnull (tgt := 15) C dX11_from_7 rfl ?_
      refine j_aload_n C dX11_from_15 1 rfl ?_
      refine g_X11_52_0 C dX11_from_16 ?_
      refine j_iload_n C dX11_from_19 2 rfl ?_
      refine l_37 C dX11_from_20 hE (fun v7 hE => ?_)
      refine j_if_ne (tgt := 29) C dX11_from_21 rfl hE (fun hE => ?_) (fun hE => ?_)
      · refine j_aload_n C dX11_from_29 1 rfl ?_
        refine g_X11_44_0 C dX11_from_30 ?_
        refine j_aload_n C dX11_from_33 0 rfl ?_
        refine k_X11_269_X10_copyFrom_r32 C dX11_from_34 hE (Nat.le_of_ble_eq_true rfl) (Nat.le_of_ble_eq_true rfl) (Nat.le_of_ble_eq_true rfl) (fun S8 hE => ?_)
        refine j_iconst (v := 1) C dX11_from_37 jc_ic_1 ?_
        exact j_iret C Q dX11_from_38 hE
      · refine j_aload_n C dX11_from_24 1 rfl ?_
        refine k_X11_99_X11_refuseNo C dX11_from_25 hE (Nat.le_of_ble_eq_true rfl) (Nat.le_of_ble_eq_true rfl) (Nat.le_of_ble_eq_true rfl) (fun v10 S9 hE => ?_)
        exact j_iret C Q dX11_from_28 hE
    · skip
      refine j_caseN hE (fun e hE2 => ?_) (fun e2 hE => ?_)
      · clear hE
        subst e
        have hE := hE2
        refine j_astore_nN (i := 2) (lv' := [(2, .null), (0, .ref (ad 0)), (1, .int x1)]) C dX11_from_5 rfl (by decide) rfl ?_
        refine j_aload_nN C dX11_from_6 0 rfl ?_
        refine j_ifnonnullN C dX11_from_7 ?_
        refine j_aload_n C dX11_from_10 1 rfl ?_
        refine k_X11_74_X11_refuseBad C dX11_from_11 hE (Nat.le_of_ble_eq_true rfl) (Nat.le_of_ble_eq_true rfl) (Nat.le_of_ble_eq_true rfl) (fun v12 S11 hE => ?_)
        exact j_iret C Q dX11_from_14 hE
      · skip
        cases hE
theorem c_X11_from {l : Launch} {D : va_G} {ad : Nat → Nat} {cy : Nat → ClassId} (hO : jOk (jMain D ad cy)) (x1 : Int32) (S : jS) {z : Int32 × jS} (hz : f_X11_from x1 S = some z) : Met l yX11_from (.code yX11_from cX11_from 3 (some .int) :: jT) { frames := 2, cells := 0, slots := 0, locals := 69 } (va_Pc [.ref (ad 0), .int x1] (jInv (jMain D ad cy) S)) (jQ (jMain D ad cy) (some (.int z.1), z.2)) 0 0 (yA (jMain D ad cy)) :=
  jMet hO (by decide +kernel) rfl (Nat.le_of_ble_eq_true rfl) (fun X _ C Q => p_X11_from_e C Q x1 S hz)
set_option maxRecDepth 100000 in
theorem p_X12_status_26 {X : jX} {D : va_G} {ad : Nat → Nat} {cy : Nat → ClassId} (C : jC X (jMain D ad cy) RX12 cX12_status (some .int) 2 1 25) {z : Int32 × jS} (Q : jRet X (jMain D ad cy) (some (.int z.1), z.2))  (a0 : Int32) (S : jS) (hE : f_X12_status_26   a0 S = some z) : jJ X (jMain D ad cy) 26 [] [.int a0] S := by
  unfold f_X12_status_26 at hE
  exact j_iret C Q dX12_status_26 hE
set_option maxRecDepth 100000 in
theorem p_X12_status_e {X : jX} {D : va_G} {ad : Nat → Nat} {cy : Nat → ClassId} (C : jC X (jMain D ad cy) RX12 cX12_status (some .int) 2 1 25) {z : Int32 × jS} (Q : jRet X (jMain D ad cy) (some (.int z.1), z.2))  (x1 : Int32) (S : jS) (hE : f_X12_status_e   x1 S = some z) : jJ X (jMain D ad cy) 0 [(0, .ref (ad 41)), (1, .int x1)] [] S := by
  unfold f_X12_status_e at hE
  refine j_iload_n C dX12_status_0 1 rfl ?_
  refine j_i2l C dX12_status_1 ?_
  refine j_lconst (v := 0) C dX12_status_2 jc_lc_0 ?_
  refine j_ldc2 (v := 2) C dX12_status_3 tw_1128 ?_
  refine k_X12_59_X12_in C dX12_status_6 hE (Nat.le_of_ble_eq_true rfl) (Nat.le_of_ble_eq_true rfl) (Nat.le_of_ble_eq_true rfl) (fun v2 S1 hE => ?_)
  refine j_if_eq (tgt := 21) C dX12_status_9 rfl hE (fun hE => ?_) (fun hE => ?_)
  · refine j_aload_n C dX12_status_21 0 rfl ?_
    refine j_iconst (v := (-1)) C dX12_status_22 jc_ic_m1 ?_
    refine k_X12_87_X12_bad C dX12_status_23 hE (Nat.le_of_ble_eq_true rfl) (Nat.le_of_ble_eq_true rfl) (Nat.le_of_ble_eq_true rfl) (fun v4 S3 hE => ?_)
    refine j_sub [] rfl ?_
    exact p_X12_status_26 C Q  v4 S3 hE
  · refine j_aload_n C dX12_status_12 0 rfl ?_
    refine g_X12_20_41 C dX12_status_13 ?_
    refine j_iload_n C dX12_status_16 1 rfl ?_
    refine l_45 C dX12_status_17 hE (fun v5 hE => ?_)
    refine j_goto (tgt := 26) C dX12_status_18 rfl ?_
    refine j_sub [] rfl ?_
    exact p_X12_status_26 C Q  v5 S1 hE
theorem c_X12_status {l : Launch} {D : va_G} {ad : Nat → Nat} {cy : Nat → ClassId} (hO : jOk (jMain D ad cy)) (x1 : Int32) (S : jS) {z : Int32 × jS} (hz : f_X12_status x1 S = some z) : Met l yX12_status (.code yX12_status cX12_status 2 (some .int) :: jT) { frames := 1, cells := 0, slots := 0, locals := 25 } (va_Pc [.ref (ad 41), .int x1] (jInv (jMain D ad cy) S)) (jQ (jMain D ad cy) (some (.int z.1), z.2)) 0 0 (yA (jMain D ad cy)) :=
  jMet hO (by decide +kernel) rfl (Nat.le_of_ble_eq_true rfl) (fun X _ C Q => p_X12_status_e C Q x1 S hz)
set_option maxRecDepth 100000 in
theorem p_X11_status_e {X : jX} {D : va_G} {ad : Nat → Nat} {cy : Nat → ClassId} (C : jC X (jMain D ad cy) RX11 cX11_status (some .int) 2 0 0) {z : Int32 × jS} (Q : jRet X (jMain D ad cy) (some (.int z.1), z.2))  (x1 : Int32) (S : jS) (hE : f_X11_status_e   x1 S = some z) : jJ X (jMain D ad cy) 0 [(0, .ref (ad 0)), (1, .int x1)] [] S := by
  unfold f_X11_status_e at hE
  refine j_iload_n C dX11_status_0 1 rfl ?_
  refine j_case hE (fun e hE => ?_) (fun e0 hE => ?_)
  · refine j_tin (tgt := 28) C dX11_status_1 (by rw [e]; decide) (by rw [e]; decide) (by rw [e]; rfl) rfl ?_
    refine j_aload_n C dX11_status_28 0 rfl ?_
    refine g_X11_273_0 C dX11_status_29 ?_
    exact j_iret C Q dX11_status_32 hE
  · skip
    refine j_case hE (fun e hE => ?_) (fun e1 hE => ?_)
    · refine j_tin (tgt := 33) C dX11_status_1 (by rw [e]; decide) (by rw [e]; decide) (by rw [e]; rfl) rfl ?_
      refine j_aload_n C dX11_status_33 0 rfl ?_
      refine g_X11_276_0 C dX11_status_34 ?_
      exact j_iret C Q dX11_status_37 hE
    · skip
      refine j_case hE (fun e hE => ?_) (fun e2 hE => ?_)
      · refine j_tin (tgt := 38) C dX11_status_1 (by rw [e]; decide) (by rw [e]; decide) (by rw [e]; rfl) rfl ?_
        refine j_aload_n C dX11_status_38 0 rfl ?_
        refine g_X11_279_0 C dX11_status_39 ?_
        exact j_iret C Q dX11_status_42 hE
      · skip
        refine j_tout (tgt := 43) C dX11_status_1 (by have w0 := lv_neT (a := 0) e0 (by decide); have w1 := lv_neT (a := 1) e1 (by decide); have w2 := lv_neT (a := 2) e2 (by decide); omega) rfl ?_
        refine j_aload_n C dX11_status_43 0 rfl ?_
        refine j_dup C dX11_status_44 rfl ?_
        refine g_X11_273_0 C dX11_status_45 ?_
        refine j_iconst (v := 1) C dX11_status_48 jc_ic_1 ?_
        refine j_iadd C dX11_status_49 ?_
        refine p_X11_273_0 C dX11_status_50 hE (fun S1 hE => ?_)
        refine j_iconst (v := (-1)) C dX11_status_53 jc_ic_m1 ?_
        exact j_iret C Q dX11_status_54 hE
theorem c_X11_status {l : Launch} {D : va_G} {ad : Nat → Nat} {cy : Nat → ClassId} (hO : jOk (jMain D ad cy)) (x1 : Int32) (S : jS) {z : Int32 × jS} (hz : f_X11_status x1 S = some z) : Met l yX11_status (.code yX11_status cX11_status 2 (some .int) :: jT) { frames := 0, cells := 0, slots := 0, locals := 0 } (va_Pc [.ref (ad 0), .int x1] (jInv (jMain D ad cy) S)) (jQ (jMain D ad cy) (some (.int z.1), z.2)) 0 0 (yA (jMain D ad cy)) :=
  jMet hO (by decide +kernel) rfl (Nat.le_of_ble_eq_true rfl) (fun X _ C Q => p_X11_status_e C Q x1 S hz)
set_option maxRecDepth 100000 in
theorem p_X12_counted_e {X : jX} {D : va_G} {ad : Nat → Nat} {cy : Nat → ClassId} (C : jC X (jMain D ad cy) RX12 cX12_counted (some .int) 2 1 22) {z : Int32 × jS} (Q : jRet X (jMain D ad cy) (some (.int z.1), z.2))  (x1 : Int32) (S : jS) (hE : f_X12_counted_e   x1 S = some z) : jJ X (jMain D ad cy) 0 [(0, .ref (ad 41)), (1, .int x1)] [] S := by
  unfold f_X12_counted_e at hE
  refine j_iload_n C dX12_counted_0 1 rfl ?_
  refine j_case hE (fun e hE => ?_) (fun e0 hE => ?_)
  · refine j_tin (tgt := 36) C dX12_counted_1 (by rw [e]; decide) (by rw [e]; decide) (by rw [e]; rfl) rfl ?_
    refine j_aload_n C dX12_counted_36 0 rfl ?_
    refine k_X12_91_X12_lived C dX12_counted_37 hE (Nat.le_of_ble_eq_true rfl) (Nat.le_of_ble_eq_true rfl) (Nat.le_of_ble_eq_true rfl) (fun v2 S1 hE => ?_)
    refine k_X12_95_X12_bits C dX12_counted_40 hE (Nat.le_of_ble_eq_true rfl) (Nat.le_of_ble_eq_true rfl) (Nat.le_of_ble_eq_true rfl) (fun v4 S3 hE => ?_)
    exact j_iret C Q dX12_counted_43 hE
  · skip
    refine j_case hE (fun e hE => ?_) (fun e1 hE => ?_)
    · refine j_tin (tgt := 44) C dX12_counted_1 (by rw [e]; decide) (by rw [e]; decide) (by rw [e]; rfl) rfl ?_
      refine j_aload_n C dX12_counted_44 0 rfl ?_
      refine k_X12_102_X12_law C dX12_counted_45 hE (Nat.le_of_ble_eq_true rfl) (Nat.le_of_ble_eq_true rfl) (Nat.le_of_ble_eq_true rfl) (fun v6 S5 hE => ?_)
      exact j_iret C Q dX12_counted_48 hE
    · skip
      refine j_case hE (fun e hE => ?_) (fun e2 hE => ?_)
      · refine j_tin (tgt := 49) C dX12_counted_1 (by rw [e]; decide) (by rw [e]; decide) (by rw [e]; rfl) rfl ?_
        refine j_aload_n C dX12_counted_49 0 rfl ?_
        refine g_X12_7_41 C dX12_counted_50 ?_
        refine j_bipush (v := 10) C dX12_counted_53 jc_bp_10 ?_
        refine l_42 C dX12_counted_55 hE (fun v7 hE => ?_)
        exact j_iret C Q dX12_counted_56 hE
      · skip
        refine j_case hE (fun e hE => ?_) (fun e3 hE => ?_)
        · refine j_tin (tgt := 57) C dX12_counted_1 (by rw [e]; decide) (by rw [e]; decide) (by rw [e]; rfl) rfl ?_
          refine j_aload_n C dX12_counted_57 0 rfl ?_
          refine g_X12_7_41 C dX12_counted_58 ?_
          refine j_bipush (v := 11) C dX12_counted_61 jc_bp_11 ?_
          refine l_42 C dX12_counted_63 hE (fun v8 hE => ?_)
          exact j_iret C Q dX12_counted_64 hE
        · skip
          refine j_case hE (fun e hE => ?_) (fun e4 hE => ?_)
          · refine j_tin (tgt := 65) C dX12_counted_1 (by rw [e]; decide) (by rw [e]; decide) (by rw [e]; rfl) rfl ?_
            refine j_aload_n C dX12_counted_65 0 rfl ?_
            refine g_X12_7_41 C dX12_counted_66 ?_
            refine j_bipush (v := 12) C dX12_counted_69 jc_bp_12 ?_
            refine l_42 C dX12_counted_71 hE (fun v9 hE => ?_)
            exact j_iret C Q dX12_counted_72 hE
          · skip
            refine j_tout (tgt := 73) C dX12_counted_1 (by have w0 := lv_neT (a := 0) e0 (by decide); have w1 := lv_neT (a := 1) e1 (by decide); have w2 := lv_neT (a := 2) e2 (by decide); have w3 := lv_neT (a := 3) e3 (by decide); have w4 := lv_neT (a := 4) e4 (by decide); omega) rfl ?_
            refine j_aload_n C dX12_counted_73 0 rfl ?_
            refine g_X12_232_41 C dX12_counted_74 ?_
            exact j_iret C Q dX12_counted_77 hE
theorem c_X12_counted {l : Launch} {D : va_G} {ad : Nat → Nat} {cy : Nat → ClassId} (hO : jOk (jMain D ad cy)) (x1 : Int32) (S : jS) {z : Int32 × jS} (hz : f_X12_counted x1 S = some z) : Met l yX12_counted (.code yX12_counted cX12_counted 2 (some .int) :: jT) { frames := 1, cells := 0, slots := 0, locals := 22 } (va_Pc [.ref (ad 41), .int x1] (jInv (jMain D ad cy) S)) (jQ (jMain D ad cy) (some (.int z.1), z.2)) 0 0 (yA (jMain D ad cy)) :=
  jMet hO (by decide +kernel) rfl (Nat.le_of_ble_eq_true rfl) (fun X _ C Q => p_X12_counted_e C Q x1 S hz)
theorem k_X12_283_X12_counted {X : jX} {D : va_G} {ad : Nat → Nat} {cy : Nat → ClassId} {cc : ByteArray} {ret : Option FieldType} {nL fr lo pc : Nat} {lv : List (Nat × Value)} {st : List Value} {S : jS} {β : Type} {z : β} (C : jC X (jMain D ad cy) RX12 cc ret nL fr lo) {a0 : Int32} {E : Int32 → jS → Option β} (d : decode cc pc = .ok (.invokevirtual 283, 3)) (hE : jcl (f_X12_counted a0 S) E = some z) (hfr : 2 ≤ fr) (hlo : 43 ≤ lo) (hst : (st.map fun v => v.category).sum ≤ 8) (K : ∀ (v : Int32) (S1 : jS), E v S1 = some z → jJ X (jMain D ad cy) (pc + 3) lv (.int v :: st) S1) : jJ X (jMain D ad cy) pc lv (.int a0 :: .ref (ad 41) :: st) S := by
  obtain ⟨v, h1, h2⟩ := jcl_some hE
  exact j_callV (k := 41) (ci := 12) (T := TX12) (N := 25) (n := 1) (As := [.int a0]) C (c_X12_counted C.2.2.2.2.2.2.1 a0 S h1) tw_1281 tw_1283 tw_67 tw_81 tw_1284 (by decide +kernel) rfl (by decide : 41 < 56) rfl rfl hfr hlo hst rfl d (K _ _ h2)
set_option maxRecDepth 100000 in
theorem p_X12_count_26 {X : jX} {D : va_G} {ad : Nat → Nat} {cy : Nat → ClassId} (C : jC X (jMain D ad cy) RX12 cX12_count (some .int) 2 2 43) {z : Int32 × jS} (Q : jRet X (jMain D ad cy) (some (.int z.1), z.2))  (a0 : Int32) (S : jS) (hE : f_X12_count_26   a0 S = some z) : jJ X (jMain D ad cy) 26 [] [.int a0] S := by
  unfold f_X12_count_26 at hE
  exact j_iret C Q dX12_count_26 hE
set_option maxRecDepth 100000 in
theorem p_X12_count_e {X : jX} {D : va_G} {ad : Nat → Nat} {cy : Nat → ClassId} (C : jC X (jMain D ad cy) RX12 cX12_count (some .int) 2 2 43) {z : Int32 × jS} (Q : jRet X (jMain D ad cy) (some (.int z.1), z.2))  (x1 : Int32) (S : jS) (hE : f_X12_count_e   x1 S = some z) : jJ X (jMain D ad cy) 0 [(0, .ref (ad 41)), (1, .int x1)] [] S := by
  unfold f_X12_count_e at hE
  refine j_iload_n C dX12_count_0 1 rfl ?_
  refine j_i2l C dX12_count_1 ?_
  refine j_lconst (v := 0) C dX12_count_2 jc_lc_0 ?_
  refine j_ldc2 (v := 5) C dX12_count_3 tw_956 ?_
  refine k_X12_59_X12_in C dX12_count_6 hE (Nat.le_of_ble_eq_true rfl) (Nat.le_of_ble_eq_true rfl) (Nat.le_of_ble_eq_true rfl) (fun v2 S1 hE => ?_)
  refine j_if_eq (tgt := 20) C dX12_count_9 rfl hE (fun hE => ?_) (fun hE => ?_)
  · refine j_aload_n C dX12_count_20 0 rfl ?_
    refine j_bipush (v := (-2)) C dX12_count_21 jc_bp_m2 ?_
    refine k_X12_87_X12_bad C dX12_count_23 hE (Nat.le_of_ble_eq_true rfl) (Nat.le_of_ble_eq_true rfl) (Nat.le_of_ble_eq_true rfl) (fun v4 S3 hE => ?_)
    refine j_sub [] rfl ?_
    exact p_X12_count_26 C Q  v4 S3 hE
  · refine j_aload_n C dX12_count_12 0 rfl ?_
    refine j_iload_n C dX12_count_13 1 rfl ?_
    refine k_X12_283_X12_counted C dX12_count_14 hE (Nat.le_of_ble_eq_true rfl) (Nat.le_of_ble_eq_true rfl) (Nat.le_of_ble_eq_true rfl) (fun v6 S5 hE => ?_)
    refine j_goto (tgt := 26) C dX12_count_17 rfl ?_
    refine j_sub [] rfl ?_
    exact p_X12_count_26 C Q  v6 S5 hE
theorem c_X12_count {l : Launch} {D : va_G} {ad : Nat → Nat} {cy : Nat → ClassId} (hO : jOk (jMain D ad cy)) (x1 : Int32) (S : jS) {z : Int32 × jS} (hz : f_X12_count x1 S = some z) : Met l yX12_count (.code yX12_count cX12_count 2 (some .int) :: jT) { frames := 2, cells := 0, slots := 0, locals := 43 } (va_Pc [.ref (ad 41), .int x1] (jInv (jMain D ad cy) S)) (jQ (jMain D ad cy) (some (.int z.1), z.2)) 0 0 (yA (jMain D ad cy)) :=
  jMet hO (by decide +kernel) rfl (Nat.le_of_ble_eq_true rfl) (fun X _ C Q => p_X12_count_e C Q x1 S hz)
set_option maxRecDepth 100000 in
theorem p_X11_tally_e {X : jX} {D : va_G} {ad : Nat → Nat} {cy : Nat → ClassId} (C : jC X (jMain D ad cy) RX11 cX11_tally (some .int) 2 1 22) {z : Int32 × jS} (Q : jRet X (jMain D ad cy) (some (.int z.1), z.2))  (x1 : Int32) (S : jS) (hE : f_X11_tally_e   x1 S = some z) : jJ X (jMain D ad cy) 0 [(0, .ref (ad 0)), (1, .int x1)] [] S := by
  unfold f_X11_tally_e at hE
  refine j_iload_n C dX11_tally_0 1 rfl ?_
  refine j_case hE (fun e hE => ?_) (fun e0 hE => ?_)
  · refine j_tin (tgt := 36) C dX11_tally_1 (by rw [e]; decide) (by rw [e]; decide) (by rw [e]; rfl) rfl ?_
    refine j_aload_n C dX11_tally_36 0 rfl ?_
    refine g_X11_44_0 C dX11_tally_37 ?_
    refine k_X11_78_X10_living C dX11_tally_40 hE (Nat.le_of_ble_eq_true rfl) (Nat.le_of_ble_eq_true rfl) (Nat.le_of_ble_eq_true rfl) (fun v2 S1 hE => ?_)
    exact j_iret C Q dX11_tally_43 hE
  · skip
    refine j_case hE (fun e hE => ?_) (fun e1 hE => ?_)
    · refine j_tin (tgt := 44) C dX11_tally_1 (by rw [e]; decide) (by rw [e]; decide) (by rw [e]; rfl) rfl ?_
      refine j_aload_n C dX11_tally_44 0 rfl ?_
      refine g_X11_44_0 C dX11_tally_45 ?_
      refine g_X11_85_21 C dX11_tally_48 ?_
      exact j_iret C Q dX11_tally_51 hE
    · skip
      refine j_case hE (fun e hE => ?_) (fun e2 hE => ?_)
      · refine j_tin (tgt := 52) C dX11_tally_1 (by rw [e]; decide) (by rw [e]; decide) (by rw [e]; rfl) rfl ?_
        refine j_aload_n C dX11_tally_52 0 rfl ?_
        refine g_X11_44_0 C dX11_tally_53 ?_
        refine g_X11_221_21 C dX11_tally_56 ?_
        exact j_iret C Q dX11_tally_59 hE
      · skip
        refine j_case hE (fun e hE => ?_) (fun e3 hE => ?_)
        · refine j_tin (tgt := 60) C dX11_tally_1 (by rw [e]; decide) (by rw [e]; decide) (by rw [e]; rfl) rfl ?_
          refine j_aload_n C dX11_tally_60 0 rfl ?_
          refine g_X11_44_0 C dX11_tally_61 ?_
          refine g_X11_234_21 C dX11_tally_64 ?_
          exact j_iret C Q dX11_tally_67 hE
        · skip
          refine j_case hE (fun e hE => ?_) (fun e4 hE => ?_)
          · refine j_tin (tgt := 68) C dX11_tally_1 (by rw [e]; decide) (by rw [e]; decide) (by rw [e]; rfl) rfl ?_
            refine j_aload_n C dX11_tally_68 0 rfl ?_
            refine g_X11_44_0 C dX11_tally_69 ?_
            refine g_X11_325_21 C dX11_tally_72 ?_
            exact j_iret C Q dX11_tally_75 hE
          · skip
            refine j_tout (tgt := 76) C dX11_tally_1 (by have w0 := lv_neT (a := 0) e0 (by decide); have w1 := lv_neT (a := 1) e1 (by decide); have w2 := lv_neT (a := 2) e2 (by decide); have w3 := lv_neT (a := 3) e3 (by decide); have w4 := lv_neT (a := 4) e4 (by decide); omega) rfl ?_
            refine j_aload_n C dX11_tally_76 0 rfl ?_
            refine g_X11_37_0 C dX11_tally_77 ?_
            refine g_X11_112_18 C dX11_tally_80 ?_
            exact j_iret C Q dX11_tally_83 hE
theorem c_X11_tally {l : Launch} {D : va_G} {ad : Nat → Nat} {cy : Nat → ClassId} (hO : jOk (jMain D ad cy)) (x1 : Int32) (S : jS) {z : Int32 × jS} (hz : f_X11_tally x1 S = some z) : Met l yX11_tally (.code yX11_tally cX11_tally 2 (some .int) :: jT) { frames := 1, cells := 0, slots := 0, locals := 22 } (va_Pc [.ref (ad 0), .int x1] (jInv (jMain D ad cy) S)) (jQ (jMain D ad cy) (some (.int z.1), z.2)) 0 0 (yA (jMain D ad cy)) :=
  jMet hO (by decide +kernel) rfl (Nat.le_of_ble_eq_true rfl) (fun X _ C Q => p_X11_tally_e C Q x1 S hz)
theorem k_X11_282_X11_tally {X : jX} {D : va_G} {ad : Nat → Nat} {cy : Nat → ClassId} {cc : ByteArray} {ret : Option FieldType} {nL fr lo pc : Nat} {lv : List (Nat × Value)} {st : List Value} {S : jS} {β : Type} {z : β} (C : jC X (jMain D ad cy) RX11 cc ret nL fr lo) {a0 : Int32} {E : Int32 → jS → Option β} (d : decode cc pc = .ok (.invokevirtual 282, 3)) (hE : jcl (f_X11_tally a0 S) E = some z) (hfr : 2 ≤ fr) (hlo : 43 ≤ lo) (hst : (st.map fun v => v.category).sum ≤ 8) (K : ∀ (v : Int32) (S1 : jS), E v S1 = some z → jJ X (jMain D ad cy) (pc + 3) lv (.int v :: st) S1) : jJ X (jMain D ad cy) pc lv (.int a0 :: .ref (ad 0) :: st) S := by
  obtain ⟨v, h1, h2⟩ := jcl_some hE
  exact j_callV (k := 0) (ci := 11) (T := TX11) (N := 16) (n := 1) (As := [.int a0]) C (c_X11_tally C.2.2.2.2.2.2.1 a0 S h1) tw_854 tw_856 tw_31 tw_69 tw_857 (by decide +kernel) rfl (by decide : 0 < 56) rfl rfl hfr hlo hst rfl d (K _ _ h2)
set_option maxRecDepth 100000 in
theorem p_X11_count_9 {X : jX} {D : va_G} {ad : Nat → Nat} {cy : Nat → ClassId} (C : jC X (jMain D ad cy) RX11 cX11_count (some .int) 2 2 43) {z : Int32 × jS} (Q : jRet X (jMain D ad cy) (some (.int z.1), z.2))   (S : jS) (hE : f_X11_count_9    S = some z) : jJ X (jMain D ad cy) 9 [(0, .ref (ad 0))] [] S := by
  unfold f_X11_count_9 at hE
  refine j_aload_n C dX11_count_9 0 rfl ?_
  refine k_X11_74_X11_refuseBad C dX11_count_10 hE (Nat.le_of_ble_eq_true rfl) (Nat.le_of_ble_eq_true rfl) (Nat.le_of_ble_eq_true rfl) (fun v2 S1 hE => ?_)
  exact j_iret C Q dX11_count_13 hE
set_option maxRecDepth 100000 in
theorem p_X11_count_e {X : jX} {D : va_G} {ad : Nat → Nat} {cy : Nat → ClassId} (C : jC X (jMain D ad cy) RX11 cX11_count (some .int) 2 2 43) {z : Int32 × jS} (Q : jRet X (jMain D ad cy) (some (.int z.1), z.2))  (x1 : Int32) (S : jS) (hE : f_X11_count_e   x1 S = some z) : jJ X (jMain D ad cy) 0 [(0, .ref (ad 0)), (1, .int x1)] [] S := by
  unfold f_X11_count_e at hE
  refine j_iload_n C dX11_count_0 1 rfl ?_
  refine j_if_lt (tgt := 9) C dX11_count_1 rfl hE (fun hE => ?_) (fun hE => ?_)
  · refine j_sub [0] rfl ?_
    exact p_X11_count_9 C Q   S hE
  · refine j_iload_n C dX11_count_4 1 rfl ?_
    refine j_iconst (v := 5) C dX11_count_5 jc_ic_5 ?_
    refine j_icmp_le (tgt := 14) C dX11_count_6 rfl hE (fun hE => ?_) (fun hE => ?_)
    · refine j_aload_n C dX11_count_14 0 rfl ?_
      refine j_iload_n C dX11_count_15 1 rfl ?_
      refine k_X11_282_X11_tally C dX11_count_16 hE (Nat.le_of_ble_eq_true rfl) (Nat.le_of_ble_eq_true rfl) (Nat.le_of_ble_eq_true rfl) (fun v2 S1 hE => ?_)
      exact j_iret C Q dX11_count_19 hE
    · refine j_sub [0] rfl ?_
      exact p_X11_count_9 C Q   S hE
theorem c_X11_count {l : Launch} {D : va_G} {ad : Nat → Nat} {cy : Nat → ClassId} (hO : jOk (jMain D ad cy)) (x1 : Int32) (S : jS) {z : Int32 × jS} (hz : f_X11_count x1 S = some z) : Met l yX11_count (.code yX11_count cX11_count 2 (some .int) :: jT) { frames := 2, cells := 0, slots := 0, locals := 43 } (va_Pc [.ref (ad 0), .int x1] (jInv (jMain D ad cy) S)) (jQ (jMain D ad cy) (some (.int z.1), z.2)) 0 0 (yA (jMain D ad cy)) :=
  jMet hO (by decide +kernel) rfl (Nat.le_of_ble_eq_true rfl) (fun X _ C Q => p_X11_count_e C Q x1 S hz)
set_option maxRecDepth 100000 in
theorem p_X12_digest_6 {X : jX} {D : va_G} {ad : Nat → Nat} {cy : Nat → ClassId} (C : jC X (jMain D ad cy) RX12 cX12_digest (some .long) 5 2 43) {z : Int64 × jS} (Q : jRet X (jMain D ad cy) (some (.long z.1), z.2)) {g : Int64 → Int32 → jS → Option (Int64 × jS)} (hg : ∀ (x1 : Int64) (x3 : Int32) (S : jS), g x1 x3 S = some z → jJ X (jMain D ad cy) 6 [(0, .ref (ad 41)), (1, .long x1), (3, .int x3)] [] S) {k31 : Int64 → jS → Option (Int64 × jS)} (hk31 : ∀ (x1 : Int64) (S : jS), k31 x1 S = some z → jJ X (jMain D ad cy) 31 [(0, .ref (ad 41)), (1, .long x1)] [] S) (x1 : Int64) (x3 : Int32) (S : jS) (hE : f_X12_digest_6  g k31 x1 x3 S = some z) : jJ X (jMain D ad cy) 6 [(0, .ref (ad 41)), (1, .long x1), (3, .int x3)] [] S := by
  unfold f_X12_digest_6 at hE
  refine j_iload_n C dX12_digest_6 2 rfl ?_
  refine j_bipush (v := 6) C dX12_digest_7 jc_bp_6 ?_
  refine j_icmp_ge (tgt := 31) C dX12_digest_9 rfl hE (fun hE => ?_) (fun hE => ?_)
  · refine j_sub [0, 1] rfl ?_
    exact hk31 x1 S hE
  · refine j_ldc2 (v := 31) C dX12_digest_12 tw_1290 ?_
    refine j_lload_n C dX12_digest_15 1 rfl ?_
    refine j_lmul C dX12_digest_16 ?_
    refine j_aload_n C dX12_digest_17 0 rfl ?_
    refine j_iload_n C dX12_digest_18 2 rfl ?_
    refine k_X12_283_X12_counted C dX12_digest_19 hE (Nat.le_of_ble_eq_true rfl) (Nat.le_of_ble_eq_true rfl) (Nat.le_of_ble_eq_true rfl) (fun v2 S1 hE => ?_)
    refine j_i2l C dX12_digest_22 ?_
    refine j_ladd C dX12_digest_23 ?_
    refine j_lstore_n (i := 1) (lv' := [(1, .long ((31 * x1) + v2.toInt64)), (0, .ref (ad 41)), (3, .int x3)]) C dX12_digest_24 rfl (by decide) rfl ?_
    refine j_iinc (v := (x3 + 1)) (lv' := [(3, .int (x3 + 1)), (1, .long ((31 * x1) + v2.toInt64)), (0, .ref (ad 41))]) C dX12_digest_25 2 rfl (congrArg (fun w => x3 + w) jc_ic_1) (by decide) rfl ?_
    refine j_goto (tgt := 6) C dX12_digest_28 rfl ?_
    refine j_sub [2, 1, 0] rfl ?_
    exact hg ((31 * x1) + v2.toInt64) (x3 + 1) S1 hE
theorem q_X12_digest_6 {X : jX} {D : va_G} {ad : Nat → Nat} {cy : Nat → ClassId} (C : jC X (jMain D ad cy) RX12 cX12_digest (some .long) 5 2 43) {z : Int64 × jS} (Q : jRet X (jMain D ad cy) (some (.long z.1), z.2)) {k31 : Int64 → jS → Option (Int64 × jS)} (hk31 : ∀ (x1 : Int64) (S : jS), k31 x1 S = some z → jJ X (jMain D ad cy) 31 [(0, .ref (ad 41)), (1, .long x1)] [] S) (x1 : Int64) (x3 : Int32) (S : jS) (hE : lp_X12_digest_6  k31 x1 x3 S = some z) : jJ X (jMain D ad cy) 6 [(0, .ref (ad 41)), (1, .long x1), (3, .int x3)] [] S :=
  jloop_P (α := Int64 × Int32 × jS) (B := (fun g q => f_X12_digest_6  (fun x1 x3 S => g (x1, x3, S)) k31 q.1 q.2.1 q.2.2)) (P := fun q => jJ X (jMain D ad cy) 6 [(0, .ref (ad 41)), (1, .long q.1), (3, .int q.2.1)] [] q.2.2) (fun g q hg h => p_X12_digest_6 C Q (g := fun x1 x3 S => g (x1, x3, S)) (fun x1 x3 S h => hg (x1, x3, S) h) hk31 q.1 q.2.1 q.2.2 h) jN (x1, x3, S) hE
set_option maxRecDepth 100000 in
theorem p_X12_digest_33 {X : jX} {D : va_G} {ad : Nat → Nat} {cy : Nat → ClassId} (C : jC X (jMain D ad cy) RX12 cX12_digest (some .long) 5 2 43) {z : Int64 × jS} (Q : jRet X (jMain D ad cy) (some (.long z.1), z.2)) {g : Int64 → Int32 → jS → Option (Int64 × jS)} (hg : ∀ (x1 : Int64) (x3 : Int32) (S : jS), g x1 x3 S = some z → jJ X (jMain D ad cy) 33 [(0, .ref (ad 41)), (1, .long x1), (3, .int x3)] [] S) {k59 : Int64 → jS → Option (Int64 × jS)} (hk59 : ∀ (x1 : Int64) (S : jS), k59 x1 S = some z → jJ X (jMain D ad cy) 59 [(0, .ref (ad 41)), (1, .long x1)] [] S) (x1 : Int64) (x3 : Int32) (S : jS) (hE : f_X12_digest_33  g k59 x1 x3 S = some z) : jJ X (jMain D ad cy) 33 [(0, .ref (ad 41)), (1, .long x1), (3, .int x3)] [] S := by
  unfold f_X12_digest_33 at hE
  refine j_iload_n C dX12_digest_33 2 rfl ?_
  refine j_bipush (v := 8) C dX12_digest_34 jc_bp_8 ?_
  refine j_icmp_ge (tgt := 59) C dX12_digest_36 rfl hE (fun hE => ?_) (fun hE => ?_)
  · refine j_sub [0, 1] rfl ?_
    exact hk59 x1 S hE
  · refine j_ldc2 (v := 31) C dX12_digest_39 tw_1290 ?_
    refine j_lload_n C dX12_digest_42 1 rfl ?_
    refine j_lmul C dX12_digest_43 ?_
    refine j_aload_n C dX12_digest_44 0 rfl ?_
    refine g_X12_7_41 C dX12_digest_45 ?_
    refine j_iload_n C dX12_digest_48 2 rfl ?_
    refine l_42 C dX12_digest_49 hE (fun v1 hE => ?_)
    refine j_i2l C dX12_digest_50 ?_
    refine j_ladd C dX12_digest_51 ?_
    refine j_lstore_n (i := 1) (lv' := [(1, .long ((31 * x1) + v1.toInt64)), (0, .ref (ad 41)), (3, .int x3)]) C dX12_digest_52 rfl (by decide) rfl ?_
    refine j_iinc (v := (x3 + 1)) (lv' := [(3, .int (x3 + 1)), (1, .long ((31 * x1) + v1.toInt64)), (0, .ref (ad 41))]) C dX12_digest_53 2 rfl (congrArg (fun w => x3 + w) jc_ic_1) (by decide) rfl ?_
    refine j_goto (tgt := 33) C dX12_digest_56 rfl ?_
    refine j_sub [2, 1, 0] rfl ?_
    exact hg ((31 * x1) + v1.toInt64) (x3 + 1) S hE
theorem q_X12_digest_33 {X : jX} {D : va_G} {ad : Nat → Nat} {cy : Nat → ClassId} (C : jC X (jMain D ad cy) RX12 cX12_digest (some .long) 5 2 43) {z : Int64 × jS} (Q : jRet X (jMain D ad cy) (some (.long z.1), z.2)) {k59 : Int64 → jS → Option (Int64 × jS)} (hk59 : ∀ (x1 : Int64) (S : jS), k59 x1 S = some z → jJ X (jMain D ad cy) 59 [(0, .ref (ad 41)), (1, .long x1)] [] S) (x1 : Int64) (x3 : Int32) (S : jS) (hE : lp_X12_digest_33  k59 x1 x3 S = some z) : jJ X (jMain D ad cy) 33 [(0, .ref (ad 41)), (1, .long x1), (3, .int x3)] [] S :=
  jloop_P (α := Int64 × Int32 × jS) (B := (fun g q => f_X12_digest_33  (fun x1 x3 S => g (x1, x3, S)) k59 q.1 q.2.1 q.2.2)) (P := fun q => jJ X (jMain D ad cy) 33 [(0, .ref (ad 41)), (1, .long q.1), (3, .int q.2.1)] [] q.2.2) (fun g q hg h => p_X12_digest_33 C Q (g := fun x1 x3 S => g (x1, x3, S)) (fun x1 x3 S h => hg (x1, x3, S) h) hk59 q.1 q.2.1 q.2.2 h) jN (x1, x3, S) hE
set_option maxRecDepth 100000 in
theorem p_X12_digest_61 {X : jX} {D : va_G} {ad : Nat → Nat} {cy : Nat → ClassId} (C : jC X (jMain D ad cy) RX12 cX12_digest (some .long) 5 2 43) {z : Int64 × jS} (Q : jRet X (jMain D ad cy) (some (.long z.1), z.2)) {g : Int64 → Int32 → jS → Option (Int64 × jS)} (hg : ∀ (x1 : Int64) (x3 : Int32) (S : jS), g x1 x3 S = some z → jJ X (jMain D ad cy) 61 [(0, .ref (ad 41)), (1, .long x1), (3, .int x3)] [] S) {k145 : Int64 → jS → Option (Int64 × jS)} (hk145 : ∀ (x1 : Int64) (S : jS), k145 x1 S = some z → jJ X (jMain D ad cy) 145 [(0, .ref (ad 41)), (1, .long x1)] [] S) (x1 : Int64) (x3 : Int32) (S : jS) (hE : f_X12_digest_61  g k145 x1 x3 S = some z) : jJ X (jMain D ad cy) 61 [(0, .ref (ad 41)), (1, .long x1), (3, .int x3)] [] S := by
  unfold f_X12_digest_61 at hE
  refine j_iload_n C dX12_digest_61 2 rfl ?_
  refine j_aload_n C dX12_digest_62 0 rfl ?_
  refine g_X12_7_41 C dX12_digest_63 ?_
  refine j_bipush (v := 10) C dX12_digest_66 jc_bp_10 ?_
  refine l_42 C dX12_digest_68 hE (fun v1 hE => ?_)
  refine j_icmp_ge (tgt := 145) C dX12_digest_69 rfl hE (fun hE => ?_) (fun hE => ?_)
  · refine j_sub [0, 1] rfl ?_
    exact hk145 x1 S hE
  · refine j_bipush (v := 13) C dX12_digest_72 jc_bp_13 ?_
    refine j_iconst (v := 4) C dX12_digest_74 jc_ic_4 ?_
    refine j_iload_n C dX12_digest_75 2 rfl ?_
    refine j_imul C dX12_digest_76 ?_
    refine j_iadd C dX12_digest_77 ?_
    refine j_istore (lv' := [(4, .int (13 + (4 * x3))), (0, .ref (ad 41)), (1, .long x1), (3, .int x3)]) C dX12_digest_78 (by decide) rfl ?_
    refine j_ldc2 (v := 31) C dX12_digest_80 tw_1290 ?_
    refine j_ldc2 (v := 31) C dX12_digest_83 tw_1290 ?_
    refine j_ldc2 (v := 31) C dX12_digest_86 tw_1290 ?_
    refine j_lload_n C dX12_digest_89 2 rfl ?_
    refine j_lmul C dX12_digest_90 ?_
    refine j_aload_n C dX12_digest_91 1 rfl ?_
    refine g_X12_7_41 C dX12_digest_92 ?_
    refine j_iload C dX12_digest_95 0 rfl ?_
    refine l_42 C dX12_digest_97 hE (fun v2 hE => ?_)
    refine j_i2l C dX12_digest_98 ?_
    refine j_ladd C dX12_digest_99 ?_
    refine j_lmul C dX12_digest_100 ?_
    refine j_aload_n C dX12_digest_101 1 rfl ?_
    refine g_X12_7_41 C dX12_digest_102 ?_
    refine j_iload C dX12_digest_105 0 rfl ?_
    refine j_iconst (v := 1) C dX12_digest_107 jc_ic_1 ?_
    refine j_iadd C dX12_digest_108 ?_
    refine l_42 C dX12_digest_109 hE (fun v3 hE => ?_)
    refine j_i2l C dX12_digest_110 ?_
    refine j_ladd C dX12_digest_111 ?_
    refine j_lmul C dX12_digest_112 ?_
    refine j_bipush (v := 10) C dX12_digest_113 jc_bp_10 ?_
    refine j_aload_n C dX12_digest_115 1 rfl ?_
    refine g_X12_7_41 C dX12_digest_116 ?_
    refine j_iload C dX12_digest_119 0 rfl ?_
    refine j_iconst (v := 2) C dX12_digest_121 jc_ic_2 ?_
    refine j_iadd C dX12_digest_122 ?_
    refine l_42 C dX12_digest_123 hE (fun v4 hE => ?_)
    refine j_imul C dX12_digest_124 ?_
    refine j_i2l C dX12_digest_125 ?_
    refine j_ladd C dX12_digest_126 ?_
    refine j_aload_n C dX12_digest_127 1 rfl ?_
    refine g_X12_7_41 C dX12_digest_128 ?_
    refine j_iload C dX12_digest_131 0 rfl ?_
    refine j_iconst (v := 3) C dX12_digest_133 jc_ic_3 ?_
    refine j_iadd C dX12_digest_134 ?_
    refine l_42 C dX12_digest_135 hE (fun v5 hE => ?_)
    refine j_i2l C dX12_digest_136 ?_
    refine j_ladd C dX12_digest_137 ?_
    refine j_lstore_n (i := 1) (lv' := [(1, .long (((31 * ((31 * ((31 * x1) + v2.toInt64)) + v3.toInt64)) + ((10 * v4) : Int32).toInt64) + v5.toInt64)), (4, .int (13 + (4 * x3))), (0, .ref (ad 41)), (3, .int x3)]) C dX12_digest_138 rfl (by decide) rfl ?_
    refine j_iinc (v := (x3 + 1)) (lv' := [(3, .int (x3 + 1)), (1, .long (((31 * ((31 * ((31 * x1) + v2.toInt64)) + v3.toInt64)) + ((10 * v4) : Int32).toInt64) + v5.toInt64)), (4, .int (13 + (4 * x3))), (0, .ref (ad 41))]) C dX12_digest_139 3 rfl (congrArg (fun w => x3 + w) jc_ic_1) (by decide) rfl ?_
    refine j_goto (tgt := 61) C dX12_digest_142 rfl ?_
    refine j_sub [3, 1, 0] rfl ?_
    exact hg (((31 * ((31 * ((31 * x1) + v2.toInt64)) + v3.toInt64)) + ((10 * v4) : Int32).toInt64) + v5.toInt64) (x3 + 1) S hE
theorem q_X12_digest_61 {X : jX} {D : va_G} {ad : Nat → Nat} {cy : Nat → ClassId} (C : jC X (jMain D ad cy) RX12 cX12_digest (some .long) 5 2 43) {z : Int64 × jS} (Q : jRet X (jMain D ad cy) (some (.long z.1), z.2)) {k145 : Int64 → jS → Option (Int64 × jS)} (hk145 : ∀ (x1 : Int64) (S : jS), k145 x1 S = some z → jJ X (jMain D ad cy) 145 [(0, .ref (ad 41)), (1, .long x1)] [] S) (x1 : Int64) (x3 : Int32) (S : jS) (hE : lp_X12_digest_61  k145 x1 x3 S = some z) : jJ X (jMain D ad cy) 61 [(0, .ref (ad 41)), (1, .long x1), (3, .int x3)] [] S :=
  jloop_P (α := Int64 × Int32 × jS) (B := (fun g q => f_X12_digest_61  (fun x1 x3 S => g (x1, x3, S)) k145 q.1 q.2.1 q.2.2)) (P := fun q => jJ X (jMain D ad cy) 61 [(0, .ref (ad 41)), (1, .long q.1), (3, .int q.2.1)] [] q.2.2) (fun g q hg h => p_X12_digest_61 C Q (g := fun x1 x3 S => g (x1, x3, S)) (fun x1 x3 S h => hg (x1, x3, S) h) hk145 q.1 q.2.1 q.2.2 h) jN (x1, x3, S) hE
set_option maxRecDepth 100000 in
theorem p_X12_digest_147 {X : jX} {D : va_G} {ad : Nat → Nat} {cy : Nat → ClassId} (C : jC X (jMain D ad cy) RX12 cX12_digest (some .long) 5 2 43) {z : Int64 × jS} (Q : jRet X (jMain D ad cy) (some (.long z.1), z.2)) {g : Int64 → Int32 → jS → Option (Int64 × jS)} (hg : ∀ (x1 : Int64) (x3 : Int32) (S : jS), g x1 x3 S = some z → jJ X (jMain D ad cy) 147 [(0, .ref (ad 41)), (1, .long x1), (3, .int x3)] [] S) {k183 : Int64 → jS → Option (Int64 × jS)} (hk183 : ∀ (x1 : Int64) (S : jS), k183 x1 S = some z → jJ X (jMain D ad cy) 183 [(0, .ref (ad 41)), (1, .long x1)] [] S) (x1 : Int64) (x3 : Int32) (S : jS) (hE : f_X12_digest_147  g k183 x1 x3 S = some z) : jJ X (jMain D ad cy) 147 [(0, .ref (ad 41)), (1, .long x1), (3, .int x3)] [] S := by
  unfold f_X12_digest_147 at hE
  refine j_iload_n C dX12_digest_147 2 rfl ?_
  refine j_iconst (v := 3) C dX12_digest_148 jc_ic_3 ?_
  refine j_aload_n C dX12_digest_149 0 rfl ?_
  refine g_X12_7_41 C dX12_digest_150 ?_
  refine j_bipush (v := 11) C dX12_digest_153 jc_bp_11 ?_
  refine l_42 C dX12_digest_155 hE (fun v1 hE => ?_)
  refine j_imul C dX12_digest_156 ?_
  refine j_icmp_ge (tgt := 183) C dX12_digest_157 rfl hE (fun hE => ?_) (fun hE => ?_)
  · refine j_sub [0, 1] rfl ?_
    exact hk183 x1 S hE
  · refine j_ldc2 (v := 31) C dX12_digest_160 tw_1290 ?_
    refine j_lload_n C dX12_digest_163 1 rfl ?_
    refine j_lmul C dX12_digest_164 ?_
    refine j_aload_n C dX12_digest_165 0 rfl ?_
    refine g_X12_7_41 C dX12_digest_166 ?_
    refine j_bipush (v := 45) C dX12_digest_169 jc_bp_45 ?_
    refine j_iload_n C dX12_digest_171 2 rfl ?_
    refine j_iadd C dX12_digest_172 ?_
    refine l_42 C dX12_digest_173 hE (fun v2 hE => ?_)
    refine j_i2l C dX12_digest_174 ?_
    refine j_ladd C dX12_digest_175 ?_
    refine j_lstore_n (i := 1) (lv' := [(1, .long ((31 * x1) + v2.toInt64)), (0, .ref (ad 41)), (3, .int x3)]) C dX12_digest_176 rfl (by decide) rfl ?_
    refine j_iinc (v := (x3 + 1)) (lv' := [(3, .int (x3 + 1)), (1, .long ((31 * x1) + v2.toInt64)), (0, .ref (ad 41))]) C dX12_digest_177 2 rfl (congrArg (fun w => x3 + w) jc_ic_1) (by decide) rfl ?_
    refine j_goto (tgt := 147) C dX12_digest_180 rfl ?_
    refine j_sub [2, 1, 0] rfl ?_
    exact hg ((31 * x1) + v2.toInt64) (x3 + 1) S hE
theorem q_X12_digest_147 {X : jX} {D : va_G} {ad : Nat → Nat} {cy : Nat → ClassId} (C : jC X (jMain D ad cy) RX12 cX12_digest (some .long) 5 2 43) {z : Int64 × jS} (Q : jRet X (jMain D ad cy) (some (.long z.1), z.2)) {k183 : Int64 → jS → Option (Int64 × jS)} (hk183 : ∀ (x1 : Int64) (S : jS), k183 x1 S = some z → jJ X (jMain D ad cy) 183 [(0, .ref (ad 41)), (1, .long x1)] [] S) (x1 : Int64) (x3 : Int32) (S : jS) (hE : lp_X12_digest_147  k183 x1 x3 S = some z) : jJ X (jMain D ad cy) 147 [(0, .ref (ad 41)), (1, .long x1), (3, .int x3)] [] S :=
  jloop_P (α := Int64 × Int32 × jS) (B := (fun g q => f_X12_digest_147  (fun x1 x3 S => g (x1, x3, S)) k183 q.1 q.2.1 q.2.2)) (P := fun q => jJ X (jMain D ad cy) 147 [(0, .ref (ad 41)), (1, .long q.1), (3, .int q.2.1)] [] q.2.2) (fun g q hg h => p_X12_digest_147 C Q (g := fun x1 x3 S => g (x1, x3, S)) (fun x1 x3 S h => hg (x1, x3, S) h) hk183 q.1 q.2.1 q.2.2 h) jN (x1, x3, S) hE
set_option maxRecDepth 100000 in
theorem p_X12_digest_183 {X : jX} {D : va_G} {ad : Nat → Nat} {cy : Nat → ClassId} (C : jC X (jMain D ad cy) RX12 cX12_digest (some .long) 5 2 43) {z : Int64 × jS} (Q : jRet X (jMain D ad cy) (some (.long z.1), z.2))  (x1 : Int64) (S : jS) (hE : f_X12_digest_183   x1 S = some z) : jJ X (jMain D ad cy) 183 [(0, .ref (ad 41)), (1, .long x1)] [] S := by
  unfold f_X12_digest_183 at hE
  refine j_ldc2 (v := 31) C dX12_digest_183 tw_1290 ?_
  refine j_ldc2 (v := 31) C dX12_digest_186 tw_1290 ?_
  refine j_lload_n C dX12_digest_189 1 rfl ?_
  refine j_lmul C dX12_digest_190 ?_
  refine j_aload_n C dX12_digest_191 0 rfl ?_
  refine g_X12_207_41 C dX12_digest_192 ?_
  refine j_ladd C dX12_digest_195 ?_
  refine j_lmul C dX12_digest_196 ?_
  refine j_aload_n C dX12_digest_197 0 rfl ?_
  refine g_X12_26_41 C dX12_digest_198 ?_
  refine j_ladd C dX12_digest_201 ?_
  exact j_lret C Q dX12_digest_202 hE
set_option maxRecDepth 100000 in
theorem p_X12_digest_145 {X : jX} {D : va_G} {ad : Nat → Nat} {cy : Nat → ClassId} (C : jC X (jMain D ad cy) RX12 cX12_digest (some .long) 5 2 43) {z : Int64 × jS} (Q : jRet X (jMain D ad cy) (some (.long z.1), z.2))  (x1 : Int64) (S : jS) (hE : f_X12_digest_145   x1 S = some z) : jJ X (jMain D ad cy) 145 [(0, .ref (ad 41)), (1, .long x1)] [] S := by
  unfold f_X12_digest_145 at hE
  refine j_iconst (v := 0) C dX12_digest_145 jc_ic_0 ?_
  refine j_istore_n (i := 3) (lv' := [(3, .int 0), (0, .ref (ad 41)), (1, .long x1)]) C dX12_digest_146 rfl (by decide) rfl ?_
  refine j_sub [1, 2, 0] rfl ?_
  exact q_X12_digest_147 C Q (p_X12_digest_183 C Q ) x1 0 S hE
set_option maxRecDepth 100000 in
theorem p_X12_digest_59 {X : jX} {D : va_G} {ad : Nat → Nat} {cy : Nat → ClassId} (C : jC X (jMain D ad cy) RX12 cX12_digest (some .long) 5 2 43) {z : Int64 × jS} (Q : jRet X (jMain D ad cy) (some (.long z.1), z.2))  (x1 : Int64) (S : jS) (hE : f_X12_digest_59   x1 S = some z) : jJ X (jMain D ad cy) 59 [(0, .ref (ad 41)), (1, .long x1)] [] S := by
  unfold f_X12_digest_59 at hE
  refine j_iconst (v := 0) C dX12_digest_59 jc_ic_0 ?_
  refine j_istore_n (i := 3) (lv' := [(3, .int 0), (0, .ref (ad 41)), (1, .long x1)]) C dX12_digest_60 rfl (by decide) rfl ?_
  refine j_sub [1, 2, 0] rfl ?_
  exact q_X12_digest_61 C Q (p_X12_digest_145 C Q ) x1 0 S hE
set_option maxRecDepth 100000 in
theorem p_X12_digest_31 {X : jX} {D : va_G} {ad : Nat → Nat} {cy : Nat → ClassId} (C : jC X (jMain D ad cy) RX12 cX12_digest (some .long) 5 2 43) {z : Int64 × jS} (Q : jRet X (jMain D ad cy) (some (.long z.1), z.2))  (x1 : Int64) (S : jS) (hE : f_X12_digest_31   x1 S = some z) : jJ X (jMain D ad cy) 31 [(0, .ref (ad 41)), (1, .long x1)] [] S := by
  unfold f_X12_digest_31 at hE
  refine j_iconst (v := 0) C dX12_digest_31 jc_ic_0 ?_
  refine j_istore_n (i := 3) (lv' := [(3, .int 0), (0, .ref (ad 41)), (1, .long x1)]) C dX12_digest_32 rfl (by decide) rfl ?_
  refine j_sub [1, 2, 0] rfl ?_
  exact q_X12_digest_33 C Q (p_X12_digest_59 C Q ) x1 0 S hE
set_option maxRecDepth 100000 in
theorem p_X12_digest_e {X : jX} {D : va_G} {ad : Nat → Nat} {cy : Nat → ClassId} (C : jC X (jMain D ad cy) RX12 cX12_digest (some .long) 5 2 43) {z : Int64 × jS} (Q : jRet X (jMain D ad cy) (some (.long z.1), z.2))   (S : jS) (hE : f_X12_digest_e    S = some z) : jJ X (jMain D ad cy) 0 [(0, .ref (ad 41))] [] S := by
  unfold f_X12_digest_e at hE
  refine j_ldc2 (v := 1013) C dX12_digest_0 tw_1289 ?_
  refine j_lstore_n (i := 1) (lv' := [(1, .long 1013), (0, .ref (ad 41))]) C dX12_digest_3 rfl (by decide) rfl ?_
  refine j_iconst (v := 0) C dX12_digest_4 jc_ic_0 ?_
  refine j_istore_n (i := 3) (lv' := [(3, .int 0), (1, .long 1013), (0, .ref (ad 41))]) C dX12_digest_5 rfl (by decide) rfl ?_
  refine j_sub [2, 1, 0] rfl ?_
  exact q_X12_digest_6 C Q (p_X12_digest_31 C Q ) 1013 0 S hE
theorem c_X12_digest {l : Launch} {D : va_G} {ad : Nat → Nat} {cy : Nat → ClassId} (hO : jOk (jMain D ad cy))  (S : jS) {z : Int64 × jS} (hz : f_X12_digest  S = some z) : Met l yX12_digest (.code yX12_digest cX12_digest 5 (some .long) :: jT) { frames := 2, cells := 0, slots := 0, locals := 43 } (va_Pc [.ref (ad 41)] (jInv (jMain D ad cy) S)) (jQ (jMain D ad cy) (some (.long z.1), z.2)) 0 0 (yA (jMain D ad cy)) :=
  jMet hO (by decide +kernel) rfl (Nat.le_of_ble_eq_true rfl) (fun X _ C Q => p_X12_digest_e C Q  S hz)
set_option maxRecDepth 100000 in
theorem p_X11_fold_r22_6 {X : jX} {D : va_G} {ad : Nat → Nat} {cy : Nat → ClassId} (C : jC X (jMain D ad cy) RX11 cX11_fold (some .long) 7 0 0) {z : Int64 × jS} (Q : jRet X (jMain D ad cy) (some (.long z.1), z.2)) {g : Int32 → Int64 → Int32 → jS → Option (Int64 × jS)} (hg : ∀ (x3 : Int32) (x4 : Int64) (x6 : Int32) (S : jS), g x3 x4 x6 S = some z → jJ X (jMain D ad cy) 6 [(2, .ref (ad 22)), (3, .int x3), (4, .long x4), (6, .int x6)] [] S) {k39 : Int64 → jS → Option (Int64 × jS)} (hk39 : ∀ (x4 : Int64) (S : jS), k39 x4 S = some z → jJ X (jMain D ad cy) 39 [(4, .long x4)] [] S) (x3 : Int32) (x4 : Int64) (x6 : Int32) (S : jS) (hE : f_X11_fold_r22_6  g k39 x3 x4 x6 S = some z) : jJ X (jMain D ad cy) 6 [(2, .ref (ad 22)), (3, .int x3), (4, .long x4), (6, .int x6)] [] S := by
  unfold f_X11_fold_r22_6 at hE
  refine j_iload C dX11_fold_6 3 rfl ?_
  refine j_iload_n C dX11_fold_8 1 rfl ?_
  refine j_icmp_ge (tgt := 39) C dX11_fold_9 rfl hE (fun hE => ?_) (fun hE => ?_)
  · refine j_sub [2] rfl ?_
    exact hk39 x4 S hE
  · refine j_iload C dX11_fold_12 3 rfl ?_
    refine j_aload_n C dX11_fold_14 0 rfl ?_
    refine n_22 C dX11_fold_15 ?_
    refine j_icmp_ge (tgt := 39) C dX11_fold_16 rfl hE (fun hE => ?_) (fun hE => ?_)
    · refine j_sub [2] rfl ?_
      exact hk39 x4 S hE
    · refine j_ldc2 (v := 31) C dX11_fold_19 tw_863 ?_
      refine j_lload C dX11_fold_22 2 rfl ?_
      refine j_lmul C dX11_fold_24 ?_
      refine j_aload_n C dX11_fold_25 0 rfl ?_
      refine j_iload C dX11_fold_26 3 rfl ?_
      refine l_22 C dX11_fold_28 hE (fun v1 hE => ?_)
      refine j_i2l C dX11_fold_29 ?_
      refine j_ladd C dX11_fold_30 ?_
      refine j_lstore (lv' := [(4, .long ((31 * x4) + v1.toInt64)), (2, .ref (ad 22)), (3, .int x3), (6, .int x6)]) C dX11_fold_31 (by decide) rfl ?_
      refine j_iinc (v := (x6 + 1)) (lv' := [(6, .int (x6 + 1)), (4, .long ((31 * x4) + v1.toInt64)), (2, .ref (ad 22)), (3, .int x3)]) C dX11_fold_33 3 rfl (congrArg (fun w => x6 + w) jc_ic_1) (by decide) rfl ?_
      refine j_goto (tgt := 6) C dX11_fold_36 rfl ?_
      refine j_sub [2, 3, 1, 0] rfl ?_
      exact hg x3 ((31 * x4) + v1.toInt64) (x6 + 1) S hE
theorem q_X11_fold_r22_6 {X : jX} {D : va_G} {ad : Nat → Nat} {cy : Nat → ClassId} (C : jC X (jMain D ad cy) RX11 cX11_fold (some .long) 7 0 0) {z : Int64 × jS} (Q : jRet X (jMain D ad cy) (some (.long z.1), z.2)) {k39 : Int64 → jS → Option (Int64 × jS)} (hk39 : ∀ (x4 : Int64) (S : jS), k39 x4 S = some z → jJ X (jMain D ad cy) 39 [(4, .long x4)] [] S) (x3 : Int32) (x4 : Int64) (x6 : Int32) (S : jS) (hE : lp_X11_fold_r22_6  k39 x3 x4 x6 S = some z) : jJ X (jMain D ad cy) 6 [(2, .ref (ad 22)), (3, .int x3), (4, .long x4), (6, .int x6)] [] S :=
  jloop_P (α := Int32 × Int64 × Int32 × jS) (B := (fun g q => f_X11_fold_r22_6  (fun x3 x4 x6 S => g (x3, x4, x6, S)) k39 q.1 q.2.1 q.2.2.1 q.2.2.2)) (P := fun q => jJ X (jMain D ad cy) 6 [(2, .ref (ad 22)), (3, .int q.1), (4, .long q.2.1), (6, .int q.2.2.1)] [] q.2.2.2) (fun g q hg h => p_X11_fold_r22_6 C Q (g := fun x3 x4 x6 S => g (x3, x4, x6, S)) (fun x3 x4 x6 S h => hg (x3, x4, x6, S) h) hk39 q.1 q.2.1 q.2.2.1 q.2.2.2 h) jN (x3, x4, x6, S) hE
set_option maxRecDepth 100000 in
theorem p_X11_fold_r22_39 {X : jX} {D : va_G} {ad : Nat → Nat} {cy : Nat → ClassId} (C : jC X (jMain D ad cy) RX11 cX11_fold (some .long) 7 0 0) {z : Int64 × jS} (Q : jRet X (jMain D ad cy) (some (.long z.1), z.2))  (x4 : Int64) (S : jS) (hE : f_X11_fold_r22_39   x4 S = some z) : jJ X (jMain D ad cy) 39 [(4, .long x4)] [] S := by
  unfold f_X11_fold_r22_39 at hE
  refine j_lload C dX11_fold_39 0 rfl ?_
  exact j_lret C Q dX11_fold_41 hE
set_option maxRecDepth 100000 in
theorem p_X11_fold_r22_e {X : jX} {D : va_G} {ad : Nat → Nat} {cy : Nat → ClassId} (C : jC X (jMain D ad cy) RX11 cX11_fold (some .long) 7 0 0) {z : Int64 × jS} (Q : jRet X (jMain D ad cy) (some (.long z.1), z.2))  (x0 : Int64) (x3 : Int32) (S : jS) (hE : f_X11_fold_r22_e   x0 x3 S = some z) : jJ X (jMain D ad cy) 0 [(0, .long x0), (2, .ref (ad 22)), (3, .int x3)] [] S := by
  unfold f_X11_fold_r22_e at hE
  refine j_lload_n C dX11_fold_0 0 rfl ?_
  refine j_lstore (lv' := [(4, .long x0), (0, .long x0), (2, .ref (ad 22)), (3, .int x3)]) C dX11_fold_1 (by decide) rfl ?_
  refine j_iconst (v := 0) C dX11_fold_3 jc_ic_0 ?_
  refine j_istore (lv' := [(6, .int 0), (4, .long x0), (0, .long x0), (2, .ref (ad 22)), (3, .int x3)]) C dX11_fold_4 (by decide) rfl ?_
  refine j_sub [3, 4, 1, 0] rfl ?_
  exact q_X11_fold_r22_6 C Q (p_X11_fold_r22_39 C Q ) x3 x0 0 S hE
theorem c_X11_fold_r22 {l : Launch} {D : va_G} {ad : Nat → Nat} {cy : Nat → ClassId} (hO : jOk (jMain D ad cy)) (x0 : Int64) (x3 : Int32) (S : jS) {z : Int64 × jS} (hz : f_X11_fold_r22 x0 x3 S = some z) : Met l yX11_fold (.code yX11_fold cX11_fold 7 (some .long) :: jT) { frames := 0, cells := 0, slots := 0, locals := 0 } (va_Pc [.long x0, .ref (ad 22), .int x3] (jInv (jMain D ad cy) S)) (jQ (jMain D ad cy) (some (.long z.1), z.2)) 0 0 (yA (jMain D ad cy)) :=
  jMet hO (by decide +kernel) rfl (Nat.le_of_ble_eq_true rfl) (fun X _ C Q => p_X11_fold_r22_e C Q x0 x3 S hz)
theorem k_X11_289_X11_fold_r22 {X : jX} {D : va_G} {ad : Nat → Nat} {cy : Nat → ClassId} {cc : ByteArray} {ret : Option FieldType} {nL fr lo pc : Nat} {lv : List (Nat × Value)} {st : List Value} {S : jS} {β : Type} {z : β} (C : jC X (jMain D ad cy) RX11 cc ret nL fr lo) {a0 : Int64} {a2 : Int32} {E : Int64 → jS → Option β} (d : decode cc pc = .ok (.invokestatic 289, 3)) (hE : jcl (f_X11_fold_r22 a0 a2 S) E = some z) (hfr : 1 ≤ fr) (hlo : 26 ≤ lo) (hst : (st.map fun v => v.category).sum ≤ 8) (K : ∀ (v : Int64) (S1 : jS), E v S1 = some z → jJ X (jMain D ad cy) (pc + 3) lv (.long v :: st) S1) : jJ X (jMain D ad cy) pc lv (.int a2 :: .ref (ad 22) :: .long a0 :: st) S := by
  obtain ⟨v, h1, h2⟩ := jcl_some hE
  exact j_callS (n := 3) (As := [.long a0, .ref (ad 22), .int a2]) C (c_X11_fold_r22 C.2.2.2.2.2.2.1 a0 a2 S h1) tw_864 tw_865 tw_69 tw_866 (by decide +kernel) rfl hfr hlo hst rfl d (K _ _ h2)
set_option maxRecDepth 100000 in
theorem p_X11_fold_r23_6 {X : jX} {D : va_G} {ad : Nat → Nat} {cy : Nat → ClassId} (C : jC X (jMain D ad cy) RX11 cX11_fold (some .long) 7 0 0) {z : Int64 × jS} (Q : jRet X (jMain D ad cy) (some (.long z.1), z.2)) {g : Int32 → Int64 → Int32 → jS → Option (Int64 × jS)} (hg : ∀ (x3 : Int32) (x4 : Int64) (x6 : Int32) (S : jS), g x3 x4 x6 S = some z → jJ X (jMain D ad cy) 6 [(2, .ref (ad 23)), (3, .int x3), (4, .long x4), (6, .int x6)] [] S) {k39 : Int64 → jS → Option (Int64 × jS)} (hk39 : ∀ (x4 : Int64) (S : jS), k39 x4 S = some z → jJ X (jMain D ad cy) 39 [(4, .long x4)] [] S) (x3 : Int32) (x4 : Int64) (x6 : Int32) (S : jS) (hE : f_X11_fold_r23_6  g k39 x3 x4 x6 S = some z) : jJ X (jMain D ad cy) 6 [(2, .ref (ad 23)), (3, .int x3), (4, .long x4), (6, .int x6)] [] S := by
  unfold f_X11_fold_r23_6 at hE
  refine j_iload C dX11_fold_6 3 rfl ?_
  refine j_iload_n C dX11_fold_8 1 rfl ?_
  refine j_icmp_ge (tgt := 39) C dX11_fold_9 rfl hE (fun hE => ?_) (fun hE => ?_)
  · refine j_sub [2] rfl ?_
    exact hk39 x4 S hE
  · refine j_iload C dX11_fold_12 3 rfl ?_
    refine j_aload_n C dX11_fold_14 0 rfl ?_
    refine n_23 C dX11_fold_15 ?_
    refine j_icmp_ge (tgt := 39) C dX11_fold_16 rfl hE (fun hE => ?_) (fun hE => ?_)
    · refine j_sub [2] rfl ?_
      exact hk39 x4 S hE
    · refine j_ldc2 (v := 31) C dX11_fold_19 tw_863 ?_
      refine j_lload C dX11_fold_22 2 rfl ?_
      refine j_lmul C dX11_fold_24 ?_
      refine j_aload_n C dX11_fold_25 0 rfl ?_
      refine j_iload C dX11_fold_26 3 rfl ?_
      refine l_23 C dX11_fold_28 hE (fun v1 hE => ?_)
      refine j_i2l C dX11_fold_29 ?_
      refine j_ladd C dX11_fold_30 ?_
      refine j_lstore (lv' := [(4, .long ((31 * x4) + v1.toInt64)), (2, .ref (ad 23)), (3, .int x3), (6, .int x6)]) C dX11_fold_31 (by decide) rfl ?_
      refine j_iinc (v := (x6 + 1)) (lv' := [(6, .int (x6 + 1)), (4, .long ((31 * x4) + v1.toInt64)), (2, .ref (ad 23)), (3, .int x3)]) C dX11_fold_33 3 rfl (congrArg (fun w => x6 + w) jc_ic_1) (by decide) rfl ?_
      refine j_goto (tgt := 6) C dX11_fold_36 rfl ?_
      refine j_sub [2, 3, 1, 0] rfl ?_
      exact hg x3 ((31 * x4) + v1.toInt64) (x6 + 1) S hE
theorem q_X11_fold_r23_6 {X : jX} {D : va_G} {ad : Nat → Nat} {cy : Nat → ClassId} (C : jC X (jMain D ad cy) RX11 cX11_fold (some .long) 7 0 0) {z : Int64 × jS} (Q : jRet X (jMain D ad cy) (some (.long z.1), z.2)) {k39 : Int64 → jS → Option (Int64 × jS)} (hk39 : ∀ (x4 : Int64) (S : jS), k39 x4 S = some z → jJ X (jMain D ad cy) 39 [(4, .long x4)] [] S) (x3 : Int32) (x4 : Int64) (x6 : Int32) (S : jS) (hE : lp_X11_fold_r23_6  k39 x3 x4 x6 S = some z) : jJ X (jMain D ad cy) 6 [(2, .ref (ad 23)), (3, .int x3), (4, .long x4), (6, .int x6)] [] S :=
  jloop_P (α := Int32 × Int64 × Int32 × jS) (B := (fun g q => f_X11_fold_r23_6  (fun x3 x4 x6 S => g (x3, x4, x6, S)) k39 q.1 q.2.1 q.2.2.1 q.2.2.2)) (P := fun q => jJ X (jMain D ad cy) 6 [(2, .ref (ad 23)), (3, .int q.1), (4, .long q.2.1), (6, .int q.2.2.1)] [] q.2.2.2) (fun g q hg h => p_X11_fold_r23_6 C Q (g := fun x3 x4 x6 S => g (x3, x4, x6, S)) (fun x3 x4 x6 S h => hg (x3, x4, x6, S) h) hk39 q.1 q.2.1 q.2.2.1 q.2.2.2 h) jN (x3, x4, x6, S) hE
set_option maxRecDepth 100000 in
theorem p_X11_fold_r23_39 {X : jX} {D : va_G} {ad : Nat → Nat} {cy : Nat → ClassId} (C : jC X (jMain D ad cy) RX11 cX11_fold (some .long) 7 0 0) {z : Int64 × jS} (Q : jRet X (jMain D ad cy) (some (.long z.1), z.2))  (x4 : Int64) (S : jS) (hE : f_X11_fold_r23_39   x4 S = some z) : jJ X (jMain D ad cy) 39 [(4, .long x4)] [] S := by
  unfold f_X11_fold_r23_39 at hE
  refine j_lload C dX11_fold_39 0 rfl ?_
  exact j_lret C Q dX11_fold_41 hE
set_option maxRecDepth 100000 in
theorem p_X11_fold_r23_e {X : jX} {D : va_G} {ad : Nat → Nat} {cy : Nat → ClassId} (C : jC X (jMain D ad cy) RX11 cX11_fold (some .long) 7 0 0) {z : Int64 × jS} (Q : jRet X (jMain D ad cy) (some (.long z.1), z.2))  (x0 : Int64) (x3 : Int32) (S : jS) (hE : f_X11_fold_r23_e   x0 x3 S = some z) : jJ X (jMain D ad cy) 0 [(0, .long x0), (2, .ref (ad 23)), (3, .int x3)] [] S := by
  unfold f_X11_fold_r23_e at hE
  refine j_lload_n C dX11_fold_0 0 rfl ?_
  refine j_lstore (lv' := [(4, .long x0), (0, .long x0), (2, .ref (ad 23)), (3, .int x3)]) C dX11_fold_1 (by decide) rfl ?_
  refine j_iconst (v := 0) C dX11_fold_3 jc_ic_0 ?_
  refine j_istore (lv' := [(6, .int 0), (4, .long x0), (0, .long x0), (2, .ref (ad 23)), (3, .int x3)]) C dX11_fold_4 (by decide) rfl ?_
  refine j_sub [3, 4, 1, 0] rfl ?_
  exact q_X11_fold_r23_6 C Q (p_X11_fold_r23_39 C Q ) x3 x0 0 S hE
theorem c_X11_fold_r23 {l : Launch} {D : va_G} {ad : Nat → Nat} {cy : Nat → ClassId} (hO : jOk (jMain D ad cy)) (x0 : Int64) (x3 : Int32) (S : jS) {z : Int64 × jS} (hz : f_X11_fold_r23 x0 x3 S = some z) : Met l yX11_fold (.code yX11_fold cX11_fold 7 (some .long) :: jT) { frames := 0, cells := 0, slots := 0, locals := 0 } (va_Pc [.long x0, .ref (ad 23), .int x3] (jInv (jMain D ad cy) S)) (jQ (jMain D ad cy) (some (.long z.1), z.2)) 0 0 (yA (jMain D ad cy)) :=
  jMet hO (by decide +kernel) rfl (Nat.le_of_ble_eq_true rfl) (fun X _ C Q => p_X11_fold_r23_e C Q x0 x3 S hz)
theorem k_X11_289_X11_fold_r23 {X : jX} {D : va_G} {ad : Nat → Nat} {cy : Nat → ClassId} {cc : ByteArray} {ret : Option FieldType} {nL fr lo pc : Nat} {lv : List (Nat × Value)} {st : List Value} {S : jS} {β : Type} {z : β} (C : jC X (jMain D ad cy) RX11 cc ret nL fr lo) {a0 : Int64} {a2 : Int32} {E : Int64 → jS → Option β} (d : decode cc pc = .ok (.invokestatic 289, 3)) (hE : jcl (f_X11_fold_r23 a0 a2 S) E = some z) (hfr : 1 ≤ fr) (hlo : 26 ≤ lo) (hst : (st.map fun v => v.category).sum ≤ 8) (K : ∀ (v : Int64) (S1 : jS), E v S1 = some z → jJ X (jMain D ad cy) (pc + 3) lv (.long v :: st) S1) : jJ X (jMain D ad cy) pc lv (.int a2 :: .ref (ad 23) :: .long a0 :: st) S := by
  obtain ⟨v, h1, h2⟩ := jcl_some hE
  exact j_callS (n := 3) (As := [.long a0, .ref (ad 23), .int a2]) C (c_X11_fold_r23 C.2.2.2.2.2.2.1 a0 a2 S h1) tw_864 tw_865 tw_69 tw_866 (by decide +kernel) rfl hfr hlo hst rfl d (K _ _ h2)
set_option maxRecDepth 100000 in
theorem p_X11_fold_r24_6 {X : jX} {D : va_G} {ad : Nat → Nat} {cy : Nat → ClassId} (C : jC X (jMain D ad cy) RX11 cX11_fold (some .long) 7 0 0) {z : Int64 × jS} (Q : jRet X (jMain D ad cy) (some (.long z.1), z.2)) {g : Int32 → Int64 → Int32 → jS → Option (Int64 × jS)} (hg : ∀ (x3 : Int32) (x4 : Int64) (x6 : Int32) (S : jS), g x3 x4 x6 S = some z → jJ X (jMain D ad cy) 6 [(2, .ref (ad 24)), (3, .int x3), (4, .long x4), (6, .int x6)] [] S) {k39 : Int64 → jS → Option (Int64 × jS)} (hk39 : ∀ (x4 : Int64) (S : jS), k39 x4 S = some z → jJ X (jMain D ad cy) 39 [(4, .long x4)] [] S) (x3 : Int32) (x4 : Int64) (x6 : Int32) (S : jS) (hE : f_X11_fold_r24_6  g k39 x3 x4 x6 S = some z) : jJ X (jMain D ad cy) 6 [(2, .ref (ad 24)), (3, .int x3), (4, .long x4), (6, .int x6)] [] S := by
  unfold f_X11_fold_r24_6 at hE
  refine j_iload C dX11_fold_6 3 rfl ?_
  refine j_iload_n C dX11_fold_8 1 rfl ?_
  refine j_icmp_ge (tgt := 39) C dX11_fold_9 rfl hE (fun hE => ?_) (fun hE => ?_)
  · refine j_sub [2] rfl ?_
    exact hk39 x4 S hE
  · refine j_iload C dX11_fold_12 3 rfl ?_
    refine j_aload_n C dX11_fold_14 0 rfl ?_
    refine n_24 C dX11_fold_15 ?_
    refine j_icmp_ge (tgt := 39) C dX11_fold_16 rfl hE (fun hE => ?_) (fun hE => ?_)
    · refine j_sub [2] rfl ?_
      exact hk39 x4 S hE
    · refine j_ldc2 (v := 31) C dX11_fold_19 tw_863 ?_
      refine j_lload C dX11_fold_22 2 rfl ?_
      refine j_lmul C dX11_fold_24 ?_
      refine j_aload_n C dX11_fold_25 0 rfl ?_
      refine j_iload C dX11_fold_26 3 rfl ?_
      refine l_24 C dX11_fold_28 hE (fun v1 hE => ?_)
      refine j_i2l C dX11_fold_29 ?_
      refine j_ladd C dX11_fold_30 ?_
      refine j_lstore (lv' := [(4, .long ((31 * x4) + v1.toInt64)), (2, .ref (ad 24)), (3, .int x3), (6, .int x6)]) C dX11_fold_31 (by decide) rfl ?_
      refine j_iinc (v := (x6 + 1)) (lv' := [(6, .int (x6 + 1)), (4, .long ((31 * x4) + v1.toInt64)), (2, .ref (ad 24)), (3, .int x3)]) C dX11_fold_33 3 rfl (congrArg (fun w => x6 + w) jc_ic_1) (by decide) rfl ?_
      refine j_goto (tgt := 6) C dX11_fold_36 rfl ?_
      refine j_sub [2, 3, 1, 0] rfl ?_
      exact hg x3 ((31 * x4) + v1.toInt64) (x6 + 1) S hE
theorem q_X11_fold_r24_6 {X : jX} {D : va_G} {ad : Nat → Nat} {cy : Nat → ClassId} (C : jC X (jMain D ad cy) RX11 cX11_fold (some .long) 7 0 0) {z : Int64 × jS} (Q : jRet X (jMain D ad cy) (some (.long z.1), z.2)) {k39 : Int64 → jS → Option (Int64 × jS)} (hk39 : ∀ (x4 : Int64) (S : jS), k39 x4 S = some z → jJ X (jMain D ad cy) 39 [(4, .long x4)] [] S) (x3 : Int32) (x4 : Int64) (x6 : Int32) (S : jS) (hE : lp_X11_fold_r24_6  k39 x3 x4 x6 S = some z) : jJ X (jMain D ad cy) 6 [(2, .ref (ad 24)), (3, .int x3), (4, .long x4), (6, .int x6)] [] S :=
  jloop_P (α := Int32 × Int64 × Int32 × jS) (B := (fun g q => f_X11_fold_r24_6  (fun x3 x4 x6 S => g (x3, x4, x6, S)) k39 q.1 q.2.1 q.2.2.1 q.2.2.2)) (P := fun q => jJ X (jMain D ad cy) 6 [(2, .ref (ad 24)), (3, .int q.1), (4, .long q.2.1), (6, .int q.2.2.1)] [] q.2.2.2) (fun g q hg h => p_X11_fold_r24_6 C Q (g := fun x3 x4 x6 S => g (x3, x4, x6, S)) (fun x3 x4 x6 S h => hg (x3, x4, x6, S) h) hk39 q.1 q.2.1 q.2.2.1 q.2.2.2 h) jN (x3, x4, x6, S) hE
set_option maxRecDepth 100000 in
theorem p_X11_fold_r24_39 {X : jX} {D : va_G} {ad : Nat → Nat} {cy : Nat → ClassId} (C : jC X (jMain D ad cy) RX11 cX11_fold (some .long) 7 0 0) {z : Int64 × jS} (Q : jRet X (jMain D ad cy) (some (.long z.1), z.2))  (x4 : Int64) (S : jS) (hE : f_X11_fold_r24_39   x4 S = some z) : jJ X (jMain D ad cy) 39 [(4, .long x4)] [] S := by
  unfold f_X11_fold_r24_39 at hE
  refine j_lload C dX11_fold_39 0 rfl ?_
  exact j_lret C Q dX11_fold_41 hE
set_option maxRecDepth 100000 in
theorem p_X11_fold_r24_e {X : jX} {D : va_G} {ad : Nat → Nat} {cy : Nat → ClassId} (C : jC X (jMain D ad cy) RX11 cX11_fold (some .long) 7 0 0) {z : Int64 × jS} (Q : jRet X (jMain D ad cy) (some (.long z.1), z.2))  (x0 : Int64) (x3 : Int32) (S : jS) (hE : f_X11_fold_r24_e   x0 x3 S = some z) : jJ X (jMain D ad cy) 0 [(0, .long x0), (2, .ref (ad 24)), (3, .int x3)] [] S := by
  unfold f_X11_fold_r24_e at hE
  refine j_lload_n C dX11_fold_0 0 rfl ?_
  refine j_lstore (lv' := [(4, .long x0), (0, .long x0), (2, .ref (ad 24)), (3, .int x3)]) C dX11_fold_1 (by decide) rfl ?_
  refine j_iconst (v := 0) C dX11_fold_3 jc_ic_0 ?_
  refine j_istore (lv' := [(6, .int 0), (4, .long x0), (0, .long x0), (2, .ref (ad 24)), (3, .int x3)]) C dX11_fold_4 (by decide) rfl ?_
  refine j_sub [3, 4, 1, 0] rfl ?_
  exact q_X11_fold_r24_6 C Q (p_X11_fold_r24_39 C Q ) x3 x0 0 S hE
theorem c_X11_fold_r24 {l : Launch} {D : va_G} {ad : Nat → Nat} {cy : Nat → ClassId} (hO : jOk (jMain D ad cy)) (x0 : Int64) (x3 : Int32) (S : jS) {z : Int64 × jS} (hz : f_X11_fold_r24 x0 x3 S = some z) : Met l yX11_fold (.code yX11_fold cX11_fold 7 (some .long) :: jT) { frames := 0, cells := 0, slots := 0, locals := 0 } (va_Pc [.long x0, .ref (ad 24), .int x3] (jInv (jMain D ad cy) S)) (jQ (jMain D ad cy) (some (.long z.1), z.2)) 0 0 (yA (jMain D ad cy)) :=
  jMet hO (by decide +kernel) rfl (Nat.le_of_ble_eq_true rfl) (fun X _ C Q => p_X11_fold_r24_e C Q x0 x3 S hz)
theorem k_X11_289_X11_fold_r24 {X : jX} {D : va_G} {ad : Nat → Nat} {cy : Nat → ClassId} {cc : ByteArray} {ret : Option FieldType} {nL fr lo pc : Nat} {lv : List (Nat × Value)} {st : List Value} {S : jS} {β : Type} {z : β} (C : jC X (jMain D ad cy) RX11 cc ret nL fr lo) {a0 : Int64} {a2 : Int32} {E : Int64 → jS → Option β} (d : decode cc pc = .ok (.invokestatic 289, 3)) (hE : jcl (f_X11_fold_r24 a0 a2 S) E = some z) (hfr : 1 ≤ fr) (hlo : 26 ≤ lo) (hst : (st.map fun v => v.category).sum ≤ 8) (K : ∀ (v : Int64) (S1 : jS), E v S1 = some z → jJ X (jMain D ad cy) (pc + 3) lv (.long v :: st) S1) : jJ X (jMain D ad cy) pc lv (.int a2 :: .ref (ad 24) :: .long a0 :: st) S := by
  obtain ⟨v, h1, h2⟩ := jcl_some hE
  exact j_callS (n := 3) (As := [.long a0, .ref (ad 24), .int a2]) C (c_X11_fold_r24 C.2.2.2.2.2.2.1 a0 a2 S h1) tw_864 tw_865 tw_69 tw_866 (by decide +kernel) rfl hfr hlo hst rfl d (K _ _ h2)
set_option maxRecDepth 100000 in
theorem p_X11_digest_6 {X : jX} {D : va_G} {ad : Nat → Nat} {cy : Nat → ClassId} (C : jC X (jMain D ad cy) RX11 cX11_digest (some .long) 4 2 43) {z : Int64 × jS} (Q : jRet X (jMain D ad cy) (some (.long z.1), z.2)) {g : Int64 → Int32 → jS → Option (Int64 × jS)} (hg : ∀ (x1 : Int64) (x3 : Int32) (S : jS), g x1 x3 S = some z → jJ X (jMain D ad cy) 6 [(0, .ref (ad 0)), (1, .long x1), (3, .int x3)] [] S) {k30 : Int64 → jS → Option (Int64 × jS)} (hk30 : ∀ (x1 : Int64) (S : jS), k30 x1 S = some z → jJ X (jMain D ad cy) 30 [(0, .ref (ad 0)), (1, .long x1)] [] S) (x1 : Int64) (x3 : Int32) (S : jS) (hE : f_X11_digest_6  g k30 x1 x3 S = some z) : jJ X (jMain D ad cy) 6 [(0, .ref (ad 0)), (1, .long x1), (3, .int x3)] [] S := by
  unfold f_X11_digest_6 at hE
  refine j_iload_n C dX11_digest_6 2 rfl ?_
  refine j_iconst (v := 5) C dX11_digest_7 jc_ic_5 ?_
  refine j_icmp_gt (tgt := 30) C dX11_digest_8 rfl hE (fun hE => ?_) (fun hE => ?_)
  · refine j_sub [0, 1] rfl ?_
    exact hk30 x1 S hE
  · refine j_ldc2 (v := 31) C dX11_digest_11 tw_863 ?_
    refine j_lload_n C dX11_digest_14 1 rfl ?_
    refine j_lmul C dX11_digest_15 ?_
    refine j_aload_n C dX11_digest_16 0 rfl ?_
    refine j_iload_n C dX11_digest_17 2 rfl ?_
    refine k_X11_282_X11_tally C dX11_digest_18 hE (Nat.le_of_ble_eq_true rfl) (Nat.le_of_ble_eq_true rfl) (Nat.le_of_ble_eq_true rfl) (fun v2 S1 hE => ?_)
    refine j_i2l C dX11_digest_21 ?_
    refine j_ladd C dX11_digest_22 ?_
    refine j_lstore_n (i := 1) (lv' := [(1, .long ((31 * x1) + v2.toInt64)), (0, .ref (ad 0)), (3, .int x3)]) C dX11_digest_23 rfl (by decide) rfl ?_
    refine j_iinc (v := (x3 + 1)) (lv' := [(3, .int (x3 + 1)), (1, .long ((31 * x1) + v2.toInt64)), (0, .ref (ad 0))]) C dX11_digest_24 2 rfl (congrArg (fun w => x3 + w) jc_ic_1) (by decide) rfl ?_
    refine j_goto (tgt := 6) C dX11_digest_27 rfl ?_
    refine j_sub [2, 1, 0] rfl ?_
    exact hg ((31 * x1) + v2.toInt64) (x3 + 1) S1 hE
theorem q_X11_digest_6 {X : jX} {D : va_G} {ad : Nat → Nat} {cy : Nat → ClassId} (C : jC X (jMain D ad cy) RX11 cX11_digest (some .long) 4 2 43) {z : Int64 × jS} (Q : jRet X (jMain D ad cy) (some (.long z.1), z.2)) {k30 : Int64 → jS → Option (Int64 × jS)} (hk30 : ∀ (x1 : Int64) (S : jS), k30 x1 S = some z → jJ X (jMain D ad cy) 30 [(0, .ref (ad 0)), (1, .long x1)] [] S) (x1 : Int64) (x3 : Int32) (S : jS) (hE : lp_X11_digest_6  k30 x1 x3 S = some z) : jJ X (jMain D ad cy) 6 [(0, .ref (ad 0)), (1, .long x1), (3, .int x3)] [] S :=
  jloop_P (α := Int64 × Int32 × jS) (B := (fun g q => f_X11_digest_6  (fun x1 x3 S => g (x1, x3, S)) k30 q.1 q.2.1 q.2.2)) (P := fun q => jJ X (jMain D ad cy) 6 [(0, .ref (ad 0)), (1, .long q.1), (3, .int q.2.1)] [] q.2.2) (fun g q hg h => p_X11_digest_6 C Q (g := fun x1 x3 S => g (x1, x3, S)) (fun x1 x3 S h => hg (x1, x3, S) h) hk30 q.1 q.2.1 q.2.2 h) jN (x1, x3, S) hE
set_option maxRecDepth 100000 in
theorem p_X11_digest_30 {X : jX} {D : va_G} {ad : Nat → Nat} {cy : Nat → ClassId} (C : jC X (jMain D ad cy) RX11 cX11_digest (some .long) 4 2 43) {z : Int64 × jS} (Q : jRet X (jMain D ad cy) (some (.long z.1), z.2))  (x1 : Int64) (S : jS) (hE : f_X11_digest_30   x1 S = some z) : jJ X (jMain D ad cy) 30 [(0, .ref (ad 0)), (1, .long x1)] [] S := by
  unfold f_X11_digest_30 at hE
  refine j_lload_n C dX11_digest_30 1 rfl ?_
  refine j_aload_n C dX11_digest_31 0 rfl ?_
  refine g_X11_44_0 C dX11_digest_32 ?_
  refine g_X11_96_21 C dX11_digest_35 ?_
  refine j_bipush (v := 8) C dX11_digest_38 jc_bp_8 ?_
  refine k_X11_289_X11_fold_r22 C dX11_digest_40 hE (Nat.le_of_ble_eq_true rfl) (Nat.le_of_ble_eq_true rfl) (Nat.le_of_ble_eq_true rfl) (fun v2 S1 hE => ?_)
  refine j_lstore_n (i := 1) (lv' := [(1, .long v2), (0, .ref (ad 0))]) C dX11_digest_43 rfl (by decide) rfl ?_
  refine j_lload_n C dX11_digest_44 0 rfl ?_
  refine j_aload_n C dX11_digest_45 1 rfl ?_
  refine g_X11_44_0 C dX11_digest_46 ?_
  refine g_X11_293_21 C dX11_digest_49 ?_
  refine j_iconst (v := 3) C dX11_digest_52 jc_ic_3 ?_
  refine j_aload_n C dX11_digest_53 1 rfl ?_
  refine g_X11_44_0 C dX11_digest_54 ?_
  refine g_X11_221_21 C dX11_digest_57 ?_
  refine j_imul C dX11_digest_60 ?_
  refine k_X11_289_X11_fold_r23 C dX11_digest_61 hE (Nat.le_of_ble_eq_true rfl) (Nat.le_of_ble_eq_true rfl) (Nat.le_of_ble_eq_true rfl) (fun v4 S3 hE => ?_)
  refine j_lstore_n (i := 1) (lv' := [(1, .long v4), (0, .ref (ad 0))]) C dX11_digest_64 rfl (by decide) rfl ?_
  refine j_lload_n C dX11_digest_65 0 rfl ?_
  refine j_aload_n C dX11_digest_66 1 rfl ?_
  refine g_X11_44_0 C dX11_digest_67 ?_
  refine g_X11_296_21 C dX11_digest_70 ?_
  refine j_iconst (v := 3) C dX11_digest_73 jc_ic_3 ?_
  refine j_aload_n C dX11_digest_74 1 rfl ?_
  refine g_X11_44_0 C dX11_digest_75 ?_
  refine g_X11_234_21 C dX11_digest_78 ?_
  refine j_imul C dX11_digest_81 ?_
  refine k_X11_289_X11_fold_r24 C dX11_digest_82 hE (Nat.le_of_ble_eq_true rfl) (Nat.le_of_ble_eq_true rfl) (Nat.le_of_ble_eq_true rfl) (fun v6 S5 hE => ?_)
  refine j_lstore_n (i := 1) (lv' := [(1, .long v6), (0, .ref (ad 0))]) C dX11_digest_85 rfl (by decide) rfl ?_
  refine j_ldc2 (v := 31) C dX11_digest_86 tw_863 ?_
  refine j_lload_n C dX11_digest_89 0 rfl ?_
  refine j_lmul C dX11_digest_90 ?_
  refine j_aload_n C dX11_digest_91 1 rfl ?_
  refine g_X11_257_0 C dX11_digest_92 ?_
  refine j_ladd C dX11_digest_95 ?_
  refine j_lstore_n (i := 1) (lv' := [(1, .long ((31 * v6) + (S5.2 0 11))), (0, .ref (ad 0))]) C dX11_digest_96 rfl (by decide) rfl ?_
  refine j_ldc2 (v := 31) C dX11_digest_97 tw_863 ?_
  refine j_lload_n C dX11_digest_100 0 rfl ?_
  refine j_lmul C dX11_digest_101 ?_
  refine j_aload_n C dX11_digest_102 1 rfl ?_
  refine g_X11_66_0 C dX11_digest_103 ?_
  refine j_ladd C dX11_digest_106 ?_
  exact j_lret C Q dX11_digest_107 hE
set_option maxRecDepth 100000 in
theorem p_X11_digest_e {X : jX} {D : va_G} {ad : Nat → Nat} {cy : Nat → ClassId} (C : jC X (jMain D ad cy) RX11 cX11_digest (some .long) 4 2 43) {z : Int64 × jS} (Q : jRet X (jMain D ad cy) (some (.long z.1), z.2))   (S : jS) (hE : f_X11_digest_e    S = some z) : jJ X (jMain D ad cy) 0 [(0, .ref (ad 0))] [] S := by
  unfold f_X11_digest_e at hE
  refine j_ldc2 (v := 1013) C dX11_digest_0 tw_862 ?_
  refine j_lstore_n (i := 1) (lv' := [(1, .long 1013), (0, .ref (ad 0))]) C dX11_digest_3 rfl (by decide) rfl ?_
  refine j_iconst (v := 0) C dX11_digest_4 jc_ic_0 ?_
  refine j_istore_n (i := 3) (lv' := [(3, .int 0), (1, .long 1013), (0, .ref (ad 0))]) C dX11_digest_5 rfl (by decide) rfl ?_
  refine j_sub [2, 1, 0] rfl ?_
  exact q_X11_digest_6 C Q (p_X11_digest_30 C Q ) 1013 0 S hE
theorem c_X11_digest {l : Launch} {D : va_G} {ad : Nat → Nat} {cy : Nat → ClassId} (hO : jOk (jMain D ad cy))  (S : jS) {z : Int64 × jS} (hz : f_X11_digest  S = some z) : Met l yX11_digest (.code yX11_digest cX11_digest 4 (some .long) :: jT) { frames := 2, cells := 0, slots := 0, locals := 43 } (va_Pc [.ref (ad 0)] (jInv (jMain D ad cy) S)) (jQ (jMain D ad cy) (some (.long z.1), z.2)) 0 0 (yA (jMain D ad cy)) :=
  jMet hO (by decide +kernel) rfl (Nat.le_of_ble_eq_true rfl) (fun X _ C Q => p_X11_digest_e C Q  S hz)
