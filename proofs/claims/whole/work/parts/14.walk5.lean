set_option maxRecDepth 100000 in
theorem p_X12_chain_19 {X : jX} {D : va_G} {ad : Nat → Nat} {cy : Nat → ClassId} (C : jC X (jMain D ad cy) RX12 cX12_chain (some .int) 7 2 45) {z : Int32 × jS} (Q : jRet X (jMain D ad cy) (some (.int z.1), z.2))   (S : jS) (hE : f_X12_chain_19    S = some z) : jJ X (jMain D ad cy) 19 [(0, .ref (ad 41))] [] S := by
  unfold f_X12_chain_19 at hE
  refine j_aload_n C dX12_chain_19 0 rfl ?_
  refine j_bipush (v := (-2)) C dX12_chain_20 jc_bp_m2 ?_
  refine k_X12_87_X12_bad C dX12_chain_22 hE (Nat.le_of_ble_eq_true rfl) (Nat.le_of_ble_eq_true rfl) (Nat.le_of_ble_eq_true rfl) (fun v2 S1 hE => ?_)
  exact j_iret C Q dX12_chain_25 hE
set_option maxRecDepth 100000 in
theorem p_X12_chain_122 {X : jX} {D : va_G} {ad : Nat → Nat} {cy : Nat → ClassId} (C : jC X (jMain D ad cy) RX12 cX12_chain (some .int) 7 2 45) {z : Int32 × jS} (Q : jRet X (jMain D ad cy) (some (.int z.1), z.2)) {g : Int32 → Int32 → Int32 → Int32 → Int32 → Int32 → jS → Option (Int32 × jS)} (hg : ∀ (x1 : Int32) (x2 : Int32) (x3 : Int32) (x4 : Int32) (x5 : Int32) (x6 : Int32) (S : jS), g x1 x2 x3 x4 x5 x6 S = some z → jJ X (jMain D ad cy) 94 [(0, .ref (ad 41)), (1, .int x1), (2, .int x2), (3, .int x3), (4, .int x4), (5, .int x5), (6, .int x6)] [] S) {k130 : Int32 → Int32 → Int32 → Int32 → jS → Option (Int32 × jS)} (hk130 : ∀ (x1 : Int32) (x2 : Int32) (x3 : Int32) (x4 : Int32) (S : jS), k130 x1 x2 x3 x4 S = some z → jJ X (jMain D ad cy) 130 [(0, .ref (ad 41)), (1, .int x1), (2, .int x2), (3, .int x3), (4, .int x4)] [] S) (a0 : Int32) (x1 : Int32) (x2 : Int32) (x3 : Int32) (x5 : Int32) (x6 : Int32) (S : jS) (hE : f_X12_chain_122  g k130 a0 x1 x2 x3 x5 x6 S = some z) : jJ X (jMain D ad cy) 122 [(0, .ref (ad 41)), (1, .int x1), (2, .int x2), (3, .int x3), (5, .int x5), (6, .int x6)] [.int a0] S := by
  unfold f_X12_chain_122 at hE
  refine j_istore (lv' := [(4, .int a0), (0, .ref (ad 41)), (1, .int x1), (2, .int x2), (3, .int x3), (5, .int x5), (6, .int x6)]) C dX12_chain_122 (by decide) rfl ?_
  refine j_iinc (v := (x6 + 1)) (lv' := [(6, .int (x6 + 1)), (4, .int a0), (0, .ref (ad 41)), (1, .int x1), (2, .int x2), (3, .int x3), (5, .int x5)]) C dX12_chain_124 6 rfl (congrArg (fun w => x6 + w) jc_ic_1) (by decide) rfl ?_
  refine j_goto (tgt := 94) C dX12_chain_127 rfl ?_
  refine j_sub [2, 3, 4, 5, 1, 6, 0] rfl ?_
  exact hg x1 x2 x3 a0 x5 (x6 + 1) S hE
set_option maxRecDepth 100000 in
theorem p_X12_chain_117 {X : jX} {D : va_G} {ad : Nat → Nat} {cy : Nat → ClassId} (C : jC X (jMain D ad cy) RX12 cX12_chain (some .int) 7 2 45) {z : Int32 × jS} (Q : jRet X (jMain D ad cy) (some (.int z.1), z.2)) {g : Int32 → Int32 → Int32 → Int32 → Int32 → Int32 → jS → Option (Int32 × jS)} (hg : ∀ (x1 : Int32) (x2 : Int32) (x3 : Int32) (x4 : Int32) (x5 : Int32) (x6 : Int32) (S : jS), g x1 x2 x3 x4 x5 x6 S = some z → jJ X (jMain D ad cy) 94 [(0, .ref (ad 41)), (1, .int x1), (2, .int x2), (3, .int x3), (4, .int x4), (5, .int x5), (6, .int x6)] [] S) {k130 : Int32 → Int32 → Int32 → Int32 → jS → Option (Int32 × jS)} (hk130 : ∀ (x1 : Int32) (x2 : Int32) (x3 : Int32) (x4 : Int32) (S : jS), k130 x1 x2 x3 x4 S = some z → jJ X (jMain D ad cy) 130 [(0, .ref (ad 41)), (1, .int x1), (2, .int x2), (3, .int x3), (4, .int x4)] [] S) (x1 : Int32) (x2 : Int32) (x3 : Int32) (x5 : Int32) (x6 : Int32) (S : jS) (hE : f_X12_chain_117  g k130 x1 x2 x3 x5 x6 S = some z) : jJ X (jMain D ad cy) 117 [(0, .ref (ad 41)), (1, .int x1), (2, .int x2), (3, .int x3), (5, .int x5), (6, .int x6)] [] S := by
  unfold f_X12_chain_117 at hE
  refine j_iconst (v := 1) C dX12_chain_117 jc_ic_1 ?_
  refine j_goto (tgt := 122) C dX12_chain_118 rfl ?_
  exact p_X12_chain_122 C Q hg hk130 1 x1 x2 x3 x5 x6 S hE
set_option maxRecDepth 100000 in
theorem p_X12_chain_94 {X : jX} {D : va_G} {ad : Nat → Nat} {cy : Nat → ClassId} (C : jC X (jMain D ad cy) RX12 cX12_chain (some .int) 7 2 45) {z : Int32 × jS} (Q : jRet X (jMain D ad cy) (some (.int z.1), z.2)) {g : Int32 → Int32 → Int32 → Int32 → Int32 → Int32 → jS → Option (Int32 × jS)} (hg : ∀ (x1 : Int32) (x2 : Int32) (x3 : Int32) (x4 : Int32) (x5 : Int32) (x6 : Int32) (S : jS), g x1 x2 x3 x4 x5 x6 S = some z → jJ X (jMain D ad cy) 94 [(0, .ref (ad 41)), (1, .int x1), (2, .int x2), (3, .int x3), (4, .int x4), (5, .int x5), (6, .int x6)] [] S) {k130 : Int32 → Int32 → Int32 → Int32 → jS → Option (Int32 × jS)} (hk130 : ∀ (x1 : Int32) (x2 : Int32) (x3 : Int32) (x4 : Int32) (S : jS), k130 x1 x2 x3 x4 S = some z → jJ X (jMain D ad cy) 130 [(0, .ref (ad 41)), (1, .int x1), (2, .int x2), (3, .int x3), (4, .int x4)] [] S) (x1 : Int32) (x2 : Int32) (x3 : Int32) (x4 : Int32) (x5 : Int32) (x6 : Int32) (S : jS) (hE : f_X12_chain_94  g k130 x1 x2 x3 x4 x5 x6 S = some z) : jJ X (jMain D ad cy) 94 [(0, .ref (ad 41)), (1, .int x1), (2, .int x2), (3, .int x3), (4, .int x4), (5, .int x5), (6, .int x6)] [] S := by
  unfold f_X12_chain_94 at hE
  refine j_iload C dX12_chain_94 6 rfl ?_
  refine j_iload_n C dX12_chain_96 3 rfl ?_
  refine j_icmp_ge (tgt := 130) C dX12_chain_97 rfl hE (fun hE => ?_) (fun hE => ?_)
  · refine j_sub [0, 1, 2, 3, 4] rfl ?_
    exact hk130 x1 x2 x3 x4 S hE
  · refine j_iload C dX12_chain_100 4 rfl ?_
    refine j_if_ne (tgt := 117) C dX12_chain_102 rfl hE (fun hE => ?_) (fun hE => ?_)
    · refine j_sub [0, 1, 2, 3, 5, 6] rfl ?_
      exact p_X12_chain_117 C Q hg hk130 x1 x2 x3 x5 x6 S hE
    · refine j_aload_n C dX12_chain_105 0 rfl ?_
      refine g_X12_42_41 C dX12_chain_106 ?_
      refine j_iload C dX12_chain_109 6 rfl ?_
      refine l_51 C dX12_chain_111 hE (fun v1 hE => ?_)
      refine j_iload C dX12_chain_112 5 rfl ?_
      refine j_icmp_ne (tgt := 121) C dX12_chain_114 rfl hE (fun hE => ?_) (fun hE => ?_)
      · refine j_iconst (v := 0) C dX12_chain_121 jc_ic_0 ?_
        refine j_sub [0, 1, 2, 3, 5, 6] rfl ?_
        exact p_X12_chain_122 C Q hg hk130 0 x1 x2 x3 x5 x6 S hE
      · refine j_sub [0, 1, 2, 3, 5, 6] rfl ?_
        exact p_X12_chain_117 C Q hg hk130 x1 x2 x3 x5 x6 S hE
theorem q_X12_chain_94 {X : jX} {D : va_G} {ad : Nat → Nat} {cy : Nat → ClassId} (C : jC X (jMain D ad cy) RX12 cX12_chain (some .int) 7 2 45) {z : Int32 × jS} (Q : jRet X (jMain D ad cy) (some (.int z.1), z.2)) {k130 : Int32 → Int32 → Int32 → Int32 → jS → Option (Int32 × jS)} (hk130 : ∀ (x1 : Int32) (x2 : Int32) (x3 : Int32) (x4 : Int32) (S : jS), k130 x1 x2 x3 x4 S = some z → jJ X (jMain D ad cy) 130 [(0, .ref (ad 41)), (1, .int x1), (2, .int x2), (3, .int x3), (4, .int x4)] [] S) (x1 : Int32) (x2 : Int32) (x3 : Int32) (x4 : Int32) (x5 : Int32) (x6 : Int32) (S : jS) (hE : lp_X12_chain_94  k130 x1 x2 x3 x4 x5 x6 S = some z) : jJ X (jMain D ad cy) 94 [(0, .ref (ad 41)), (1, .int x1), (2, .int x2), (3, .int x3), (4, .int x4), (5, .int x5), (6, .int x6)] [] S :=
  jloop_P (α := Int32 × Int32 × Int32 × Int32 × Int32 × Int32 × jS) (B := (fun g q => f_X12_chain_94  (fun x1 x2 x3 x4 x5 x6 S => g (x1, x2, x3, x4, x5, x6, S)) k130 q.1 q.2.1 q.2.2.1 q.2.2.2.1 q.2.2.2.2.1 q.2.2.2.2.2.1 q.2.2.2.2.2.2)) (P := fun q => jJ X (jMain D ad cy) 94 [(0, .ref (ad 41)), (1, .int q.1), (2, .int q.2.1), (3, .int q.2.2.1), (4, .int q.2.2.2.1), (5, .int q.2.2.2.2.1), (6, .int q.2.2.2.2.2.1)] [] q.2.2.2.2.2.2) (fun g q hg h => p_X12_chain_94 C Q (g := fun x1 x2 x3 x4 x5 x6 S => g (x1, x2, x3, x4, x5, x6, S)) (fun x1 x2 x3 x4 x5 x6 S h => hg (x1, x2, x3, x4, x5, x6, S) h) hk130 q.1 q.2.1 q.2.2.1 q.2.2.2.1 q.2.2.2.2.1 q.2.2.2.2.2.1 q.2.2.2.2.2.2 h) jN (x1, x2, x3, x4, x5, x6, S) hE
set_option maxRecDepth 100000 in
theorem p_X12_chain_130 {X : jX} {D : va_G} {ad : Nat → Nat} {cy : Nat → ClassId} (C : jC X (jMain D ad cy) RX12 cX12_chain (some .int) 7 2 45) {z : Int32 × jS} (Q : jRet X (jMain D ad cy) (some (.int z.1), z.2)) {g : Int32 → Int32 → Int32 → Int32 → jS → Option (Int32 × jS)} (hg : ∀ (x1 : Int32) (x2 : Int32) (x3 : Int32) (x4 : Int32) (S : jS), g x1 x2 x3 x4 S = some z → jJ X (jMain D ad cy) 38 [(0, .ref (ad 41)), (1, .int x1), (2, .int x2), (3, .int x3), (4, .int x4)] [] S) {k133 : Int32 → Int32 → Int32 → jS → Option (Int32 × jS)} (hk133 : ∀ (x1 : Int32) (x2 : Int32) (x3 : Int32) (S : jS), k133 x1 x2 x3 S = some z → jJ X (jMain D ad cy) 133 [(0, .ref (ad 41)), (1, .int x1), (2, .int x2), (3, .int x3)] [] S) (x1 : Int32) (x2 : Int32) (x3 : Int32) (x4 : Int32) (S : jS) (hE : f_X12_chain_130  g k133 x1 x2 x3 x4 S = some z) : jJ X (jMain D ad cy) 130 [(0, .ref (ad 41)), (1, .int x1), (2, .int x2), (3, .int x3), (4, .int x4)] [] S := by
  unfold f_X12_chain_130 at hE
  refine j_goto (tgt := 38) C dX12_chain_130 rfl ?_
  exact hg x1 x2 x3 x4 S hE
set_option maxRecDepth 100000 in
theorem p_X12_chain_89 {X : jX} {D : va_G} {ad : Nat → Nat} {cy : Nat → ClassId} (C : jC X (jMain D ad cy) RX12 cX12_chain (some .int) 7 2 45) {z : Int32 × jS} (Q : jRet X (jMain D ad cy) (some (.int z.1), z.2)) {g : Int32 → Int32 → Int32 → Int32 → jS → Option (Int32 × jS)} (hg : ∀ (x1 : Int32) (x2 : Int32) (x3 : Int32) (x4 : Int32) (S : jS), g x1 x2 x3 x4 S = some z → jJ X (jMain D ad cy) 38 [(0, .ref (ad 41)), (1, .int x1), (2, .int x2), (3, .int x3), (4, .int x4)] [] S) {k133 : Int32 → Int32 → Int32 → jS → Option (Int32 × jS)} (hk133 : ∀ (x1 : Int32) (x2 : Int32) (x3 : Int32) (S : jS), k133 x1 x2 x3 S = some z → jJ X (jMain D ad cy) 133 [(0, .ref (ad 41)), (1, .int x1), (2, .int x2), (3, .int x3)] [] S) (a0 : Int32) (x1 : Int32) (x2 : Int32) (x3 : Int32) (x5 : Int32) (S : jS) (hE : f_X12_chain_89  g k133 a0 x1 x2 x3 x5 S = some z) : jJ X (jMain D ad cy) 89 [(0, .ref (ad 41)), (1, .int x1), (2, .int x2), (3, .int x3), (5, .int x5)] [.int a0] S := by
  unfold f_X12_chain_89 at hE
  refine j_istore (lv' := [(4, .int a0), (0, .ref (ad 41)), (1, .int x1), (2, .int x2), (3, .int x3), (5, .int x5)]) C dX12_chain_89 (by decide) rfl ?_
  refine j_iconst (v := 0) C dX12_chain_91 jc_ic_0 ?_
  refine j_istore (lv' := [(6, .int 0), (4, .int a0), (0, .ref (ad 41)), (1, .int x1), (2, .int x2), (3, .int x3), (5, .int x5)]) C dX12_chain_92 (by decide) rfl ?_
  refine j_sub [2, 3, 4, 5, 1, 6, 0] rfl ?_
  exact q_X12_chain_94 C Q (p_X12_chain_130 C Q hg hk133) x1 x2 x3 a0 x5 0 S hE
set_option maxRecDepth 100000 in
theorem p_X12_chain_84 {X : jX} {D : va_G} {ad : Nat → Nat} {cy : Nat → ClassId} (C : jC X (jMain D ad cy) RX12 cX12_chain (some .int) 7 2 45) {z : Int32 × jS} (Q : jRet X (jMain D ad cy) (some (.int z.1), z.2)) {g : Int32 → Int32 → Int32 → Int32 → jS → Option (Int32 × jS)} (hg : ∀ (x1 : Int32) (x2 : Int32) (x3 : Int32) (x4 : Int32) (S : jS), g x1 x2 x3 x4 S = some z → jJ X (jMain D ad cy) 38 [(0, .ref (ad 41)), (1, .int x1), (2, .int x2), (3, .int x3), (4, .int x4)] [] S) {k133 : Int32 → Int32 → Int32 → jS → Option (Int32 × jS)} (hk133 : ∀ (x1 : Int32) (x2 : Int32) (x3 : Int32) (S : jS), k133 x1 x2 x3 S = some z → jJ X (jMain D ad cy) 133 [(0, .ref (ad 41)), (1, .int x1), (2, .int x2), (3, .int x3)] [] S) (x1 : Int32) (x2 : Int32) (x3 : Int32) (x5 : Int32) (S : jS) (hE : f_X12_chain_84  g k133 x1 x2 x3 x5 S = some z) : jJ X (jMain D ad cy) 84 [(0, .ref (ad 41)), (1, .int x1), (2, .int x2), (3, .int x3), (5, .int x5)] [] S := by
  unfold f_X12_chain_84 at hE
  refine j_iconst (v := 1) C dX12_chain_84 jc_ic_1 ?_
  refine j_goto (tgt := 89) C dX12_chain_85 rfl ?_
  exact p_X12_chain_89 C Q hg hk133 1 x1 x2 x3 x5 S hE
set_option maxRecDepth 100000 in
theorem p_X12_chain_38 {X : jX} {D : va_G} {ad : Nat → Nat} {cy : Nat → ClassId} (C : jC X (jMain D ad cy) RX12 cX12_chain (some .int) 7 2 45) {z : Int32 × jS} (Q : jRet X (jMain D ad cy) (some (.int z.1), z.2)) {g : Int32 → Int32 → Int32 → Int32 → jS → Option (Int32 × jS)} (hg : ∀ (x1 : Int32) (x2 : Int32) (x3 : Int32) (x4 : Int32) (S : jS), g x1 x2 x3 x4 S = some z → jJ X (jMain D ad cy) 38 [(0, .ref (ad 41)), (1, .int x1), (2, .int x2), (3, .int x3), (4, .int x4)] [] S) {k133 : Int32 → Int32 → Int32 → jS → Option (Int32 × jS)} (hk133 : ∀ (x1 : Int32) (x2 : Int32) (x3 : Int32) (S : jS), k133 x1 x2 x3 S = some z → jJ X (jMain D ad cy) 133 [(0, .ref (ad 41)), (1, .int x1), (2, .int x2), (3, .int x3)] [] S) (x1 : Int32) (x2 : Int32) (x3 : Int32) (x4 : Int32) (S : jS) (hE : f_X12_chain_38  g k133 x1 x2 x3 x4 S = some z) : jJ X (jMain D ad cy) 38 [(0, .ref (ad 41)), (1, .int x1), (2, .int x2), (3, .int x3), (4, .int x4)] [] S := by
  unfold f_X12_chain_38 at hE
  refine j_iload_n C dX12_chain_38 3 rfl ?_
  refine j_bipush (v := 20) C dX12_chain_39 jc_bp_20 ?_
  refine j_icmp_ge (tgt := 133) C dX12_chain_41 rfl hE (fun hE => ?_) (fun hE => ?_)
  · refine j_sub [0, 1, 2, 3] rfl ?_
    exact hk133 x1 x2 x3 S hE
  · refine j_iload C dX12_chain_44 4 rfl ?_
    refine j_if_ne (tgt := 133) C dX12_chain_46 rfl hE (fun hE => ?_) (fun hE => ?_)
    · refine j_sub [0, 1, 2, 3] rfl ?_
      exact hk133 x1 x2 x3 S hE
    · refine j_aload_n C dX12_chain_49 0 rfl ?_
      refine g_X12_42_41 C dX12_chain_50 ?_
      refine j_iload_n C dX12_chain_53 3 rfl ?_
      refine l_51 C dX12_chain_54 hE (fun v1 hE => ?_)
      refine k_X12_177_X12_partsOf C dX12_chain_55 hE (Nat.le_of_ble_eq_true rfl) (Nat.le_of_ble_eq_true rfl) (Nat.le_of_ble_eq_true rfl) (fun v3 S2 hE => ?_)
      refine j_istore (lv' := [(5, .int v3), (0, .ref (ad 41)), (1, .int x1), (2, .int x2), (3, .int x3), (4, .int x4)]) C dX12_chain_58 (by decide) rfl ?_
      refine j_iinc (v := (x3 + 1)) (lv' := [(3, .int (x3 + 1)), (5, .int v3), (0, .ref (ad 41)), (1, .int x1), (2, .int x2), (4, .int x4)]) C dX12_chain_60 4 rfl (congrArg (fun w => x3 + w) jc_ic_1) (by decide) rfl ?_
      refine j_aload_n C dX12_chain_63 2 rfl ?_
      refine g_X12_42_41 C dX12_chain_64 ?_
      refine j_iload_n C dX12_chain_67 0 rfl ?_
      refine j_iload C dX12_chain_68 1 rfl ?_
      refine s_51 C dX12_chain_70 hE (fun S4 hE => ?_)
      refine j_iload C dX12_chain_71 1 rfl ?_
      refine j_if_eq (tgt := 84) C dX12_chain_73 rfl hE (fun hE => ?_) (fun hE => ?_)
      · refine j_sub [2, 3, 4, 0, 1] rfl ?_
        exact p_X12_chain_84 C Q hg hk133 x1 x2 (x3 + 1) v3 S4 hE
      · refine j_iload C dX12_chain_76 1 rfl ?_
        refine j_sipush (v := 9999) C dX12_chain_78 jc_sp_9999 ?_
        refine j_icmp_le (tgt := 88) C dX12_chain_81 rfl hE (fun hE => ?_) (fun hE => ?_)
        · refine j_iconst (v := 0) C dX12_chain_88 jc_ic_0 ?_
          refine j_sub [2, 3, 4, 0, 1] rfl ?_
          exact p_X12_chain_89 C Q hg hk133 0 x1 x2 (x3 + 1) v3 S4 hE
        · refine j_sub [2, 3, 4, 0, 1] rfl ?_
          exact p_X12_chain_84 C Q hg hk133 x1 x2 (x3 + 1) v3 S4 hE
theorem q_X12_chain_38 {X : jX} {D : va_G} {ad : Nat → Nat} {cy : Nat → ClassId} (C : jC X (jMain D ad cy) RX12 cX12_chain (some .int) 7 2 45) {z : Int32 × jS} (Q : jRet X (jMain D ad cy) (some (.int z.1), z.2)) {k133 : Int32 → Int32 → Int32 → jS → Option (Int32 × jS)} (hk133 : ∀ (x1 : Int32) (x2 : Int32) (x3 : Int32) (S : jS), k133 x1 x2 x3 S = some z → jJ X (jMain D ad cy) 133 [(0, .ref (ad 41)), (1, .int x1), (2, .int x2), (3, .int x3)] [] S) (x1 : Int32) (x2 : Int32) (x3 : Int32) (x4 : Int32) (S : jS) (hE : lp_X12_chain_38  k133 x1 x2 x3 x4 S = some z) : jJ X (jMain D ad cy) 38 [(0, .ref (ad 41)), (1, .int x1), (2, .int x2), (3, .int x3), (4, .int x4)] [] S :=
  jloop_P (α := Int32 × Int32 × Int32 × Int32 × jS) (B := (fun g q => f_X12_chain_38  (fun x1 x2 x3 x4 S => g (x1, x2, x3, x4, S)) k133 q.1 q.2.1 q.2.2.1 q.2.2.2.1 q.2.2.2.2)) (P := fun q => jJ X (jMain D ad cy) 38 [(0, .ref (ad 41)), (1, .int q.1), (2, .int q.2.1), (3, .int q.2.2.1), (4, .int q.2.2.2.1)] [] q.2.2.2.2) (fun g q hg h => p_X12_chain_38 C Q (g := fun x1 x2 x3 x4 S => g (x1, x2, x3, x4, S)) (fun x1 x2 x3 x4 S h => hg (x1, x2, x3, x4, S) h) hk133 q.1 q.2.1 q.2.2.1 q.2.2.2.1 q.2.2.2.2 h) jN (x1, x2, x3, x4, S) hE
set_option maxRecDepth 100000 in
theorem p_X12_chain_170 {X : jX} {D : va_G} {ad : Nat → Nat} {cy : Nat → ClassId} (C : jC X (jMain D ad cy) RX12 cX12_chain (some .int) 7 2 45) {z : Int32 × jS} (Q : jRet X (jMain D ad cy) (some (.int z.1), z.2))  (a0 : Int32) (S : jS) (hE : f_X12_chain_170   a0 S = some z) : jJ X (jMain D ad cy) 170 [] [.int a0] S := by
  unfold f_X12_chain_170 at hE
  exact j_iret C Q dX12_chain_170 hE
set_option maxRecDepth 100000 in
theorem p_X12_chain_133 {X : jX} {D : va_G} {ad : Nat → Nat} {cy : Nat → ClassId} (C : jC X (jMain D ad cy) RX12 cX12_chain (some .int) 7 2 45) {z : Int32 × jS} (Q : jRet X (jMain D ad cy) (some (.int z.1), z.2))  (x1 : Int32) (x2 : Int32) (x3 : Int32) (S : jS) (hE : f_X12_chain_133   x1 x2 x3 S = some z) : jJ X (jMain D ad cy) 133 [(0, .ref (ad 41)), (1, .int x1), (2, .int x2), (3, .int x3)] [] S := by
  unfold f_X12_chain_133 at hE
  refine j_iload_n C dX12_chain_133 2 rfl ?_
  refine j_if_ne (tgt := 141) C dX12_chain_134 rfl hE (fun hE => ?_) (fun hE => ?_)
  · refine j_iload_n C dX12_chain_141 2 rfl ?_
    refine j_iconst (v := 1) C dX12_chain_142 jc_ic_1 ?_
    refine j_icmp_ne (tgt := 155) C dX12_chain_143 rfl hE (fun hE => ?_) (fun hE => ?_)
    · refine j_aload_n C dX12_chain_155 0 rfl ?_
      refine g_X12_23_41 C dX12_chain_156 ?_
      refine j_iload_n C dX12_chain_159 1 rfl ?_
      refine l_46 C dX12_chain_160 hE (fun v1 hE => ?_)
      refine j_iload_n C dX12_chain_161 1 rfl ?_
      refine j_icmp_ne (tgt := 169) C dX12_chain_162 rfl hE (fun hE => ?_) (fun hE => ?_)
      · refine j_iconst (v := 0) C dX12_chain_169 jc_ic_0 ?_
        refine j_sub [] rfl ?_
        exact p_X12_chain_170 C Q  0 S hE
      · refine j_iconst (v := 1) C dX12_chain_165 jc_ic_1 ?_
        refine j_goto (tgt := 170) C dX12_chain_166 rfl ?_
        refine j_sub [] rfl ?_
        exact p_X12_chain_170 C Q  1 S hE
    · refine j_aload_n C dX12_chain_146 0 rfl ?_
      refine g_X12_42_41 C dX12_chain_147 ?_
      refine j_iload_n C dX12_chain_150 3 rfl ?_
      refine l_51 C dX12_chain_151 hE (fun v2 hE => ?_)
      refine j_goto (tgt := 170) C dX12_chain_152 rfl ?_
      refine j_sub [] rfl ?_
      exact p_X12_chain_170 C Q  v2 S hE
  · refine j_iload_n C dX12_chain_137 3 rfl ?_
    refine j_goto (tgt := 170) C dX12_chain_138 rfl ?_
    refine j_sub [] rfl ?_
    exact p_X12_chain_170 C Q  x3 S hE
set_option maxRecDepth 100000 in
theorem p_X12_chain_e {X : jX} {D : va_G} {ad : Nat → Nat} {cy : Nat → ClassId} (C : jC X (jMain D ad cy) RX12 cX12_chain (some .int) 7 2 45) {z : Int32 × jS} (Q : jRet X (jMain D ad cy) (some (.int z.1), z.2))  (x1 : Int32) (x2 : Int32) (S : jS) (hE : f_X12_chain_e   x1 x2 S = some z) : jJ X (jMain D ad cy) 0 [(0, .ref (ad 41)), (1, .int x1), (2, .int x2)] [] S := by
  unfold f_X12_chain_e at hE
  refine j_iload_n C dX12_chain_0 1 rfl ?_
  refine k_X12_131_X12_isNumber C dX12_chain_1 hE (Nat.le_of_ble_eq_true rfl) (Nat.le_of_ble_eq_true rfl) (Nat.le_of_ble_eq_true rfl) (fun v2 S1 hE => ?_)
  refine j_if_eq (tgt := 19) C dX12_chain_4 rfl hE (fun hE => ?_) (fun hE => ?_)
  · refine j_sub [0] rfl ?_
    exact p_X12_chain_19 C Q   S1 hE
  · refine j_iload_n C dX12_chain_7 2 rfl ?_
    refine j_i2l C dX12_chain_8 ?_
    refine j_lconst (v := 0) C dX12_chain_9 jc_lc_0 ?_
    refine j_ldc2 (v := 2) C dX12_chain_10 tw_1128 ?_
    refine k_X12_59_X12_in C dX12_chain_13 hE (Nat.le_of_ble_eq_true rfl) (Nat.le_of_ble_eq_true rfl) (Nat.le_of_ble_eq_true rfl) (fun v4 S3 hE => ?_)
    refine j_if_ne (tgt := 26) C dX12_chain_16 rfl hE (fun hE => ?_) (fun hE => ?_)
    · refine j_iconst (v := 0) C dX12_chain_26 jc_ic_0 ?_
      refine j_istore_n (i := 3) (lv' := [(3, .int 0), (0, .ref (ad 41)), (1, .int x1), (2, .int x2)]) C dX12_chain_27 rfl (by decide) rfl ?_
      refine j_iconst (v := 0) C dX12_chain_28 jc_ic_0 ?_
      refine j_istore (lv' := [(4, .int 0), (3, .int 0), (0, .ref (ad 41)), (1, .int x1), (2, .int x2)]) C dX12_chain_29 (by decide) rfl ?_
      refine j_aload_n C dX12_chain_31 2 rfl ?_
      refine g_X12_42_41 C dX12_chain_32 ?_
      refine j_iconst (v := 0) C dX12_chain_35 jc_ic_0 ?_
      refine j_iload_n C dX12_chain_36 3 rfl ?_
      refine s_51 C dX12_chain_37 hE (fun S5 hE => ?_)
      refine j_sub [2, 3, 4, 1, 0] rfl ?_
      exact q_X12_chain_38 C Q (p_X12_chain_133 C Q ) x1 x2 0 0 S5 hE
    · refine j_sub [0] rfl ?_
      exact p_X12_chain_19 C Q   S3 hE
theorem c_X12_chain {l : Launch} {D : va_G} {ad : Nat → Nat} {cy : Nat → ClassId} (hO : jOk (jMain D ad cy)) (x1 : Int32) (x2 : Int32) (S : jS) {z : Int32 × jS} (hz : f_X12_chain x1 x2 S = some z) : Met l yX12_chain (.code yX12_chain cX12_chain 7 (some .int) :: jT) { frames := 2, cells := 0, slots := 0, locals := 45 } (va_Pc [.ref (ad 41), .int x1, .int x2] (jInv (jMain D ad cy) S)) (jQ (jMain D ad cy) (some (.int z.1), z.2)) 0 0 (yA (jMain D ad cy)) :=
  jMet hO (by decide +kernel) rfl (Nat.le_of_ble_eq_true rfl) (fun X _ C Q => p_X12_chain_e C Q x1 x2 S hz)
set_option maxRecDepth 100000 in
theorem p_X11_isLink_2 {X : jX} {D : va_G} {ad : Nat → Nat} {cy : Nat → ClassId} (C : jC X (jMain D ad cy) RX11 cX11_isLink (some .boolean) 3 0 0) {z : Int32 × jS} (Q : jRet X (jMain D ad cy) (some (.int z.1), z.2)) {g : Int32 → Int32 → jS → Option (Int32 × jS)} (hg : ∀ (x1 : Int32) (x2 : Int32) (S : jS), g x1 x2 S = some z → jJ X (jMain D ad cy) 2 [(0, .ref (ad 0)), (1, .int x1), (2, .int x2)] [] S) {k29 : jS → Option (Int32 × jS)} (hk29 : ∀  (S : jS), k29  S = some z → jJ X (jMain D ad cy) 29 [] [] S) {k37 : jS → Option (Int32 × jS)} (hk37 : ∀  (S : jS), k37  S = some z → jJ X (jMain D ad cy) 37 [] [] S) (x1 : Int32) (x2 : Int32) (S : jS) (hE : f_X11_isLink_2  g k29 k37 x1 x2 S = some z) : jJ X (jMain D ad cy) 2 [(0, .ref (ad 0)), (1, .int x1), (2, .int x2)] [] S := by
  unfold f_X11_isLink_2 at hE
  refine j_iload_n C dX11_isLink_2 2 rfl ?_
  refine j_aload_n C dX11_isLink_3 0 rfl ?_
  refine g_X11_200_0 C dX11_isLink_4 ?_
  refine j_icmp_ge (tgt := 37) C dX11_isLink_7 rfl hE (fun hE => ?_) (fun hE => ?_)
  · refine j_sub [] rfl ?_
    exact hk37  S hE
  · refine j_iload_n C dX11_isLink_10 2 rfl ?_
    refine j_aload_n C dX11_isLink_11 0 rfl ?_
    refine g_X11_63_0 C dX11_isLink_12 ?_
    refine n_40 C dX11_isLink_15 ?_
    refine j_icmp_ge (tgt := 37) C dX11_isLink_16 rfl hE (fun hE => ?_) (fun hE => ?_)
    · refine j_sub [] rfl ?_
      exact hk37  S hE
    · refine j_aload_n C dX11_isLink_19 0 rfl ?_
      refine g_X11_63_0 C dX11_isLink_20 ?_
      refine j_iload_n C dX11_isLink_23 2 rfl ?_
      refine l_40 C dX11_isLink_24 hE (fun v1 hE => ?_)
      refine j_iload_n C dX11_isLink_25 1 rfl ?_
      refine j_icmp_ne (tgt := 31) C dX11_isLink_26 rfl hE (fun hE => ?_) (fun hE => ?_)
      · refine j_iinc (v := (x2 + 1)) (lv' := [(2, .int (x2 + 1)), (0, .ref (ad 0)), (1, .int x1)]) C dX11_isLink_31 2 rfl (congrArg (fun w => x2 + w) jc_ic_1) (by decide) rfl ?_
        refine j_goto (tgt := 2) C dX11_isLink_34 rfl ?_
        refine j_sub [1, 2, 0] rfl ?_
        exact hg x1 (x2 + 1) S hE
      · refine j_sub [] rfl ?_
        exact hk29  S hE
theorem q_X11_isLink_2 {X : jX} {D : va_G} {ad : Nat → Nat} {cy : Nat → ClassId} (C : jC X (jMain D ad cy) RX11 cX11_isLink (some .boolean) 3 0 0) {z : Int32 × jS} (Q : jRet X (jMain D ad cy) (some (.int z.1), z.2)) {k29 : jS → Option (Int32 × jS)} (hk29 : ∀  (S : jS), k29  S = some z → jJ X (jMain D ad cy) 29 [] [] S) {k37 : jS → Option (Int32 × jS)} (hk37 : ∀  (S : jS), k37  S = some z → jJ X (jMain D ad cy) 37 [] [] S) (x1 : Int32) (x2 : Int32) (S : jS) (hE : lp_X11_isLink_2  k29 k37 x1 x2 S = some z) : jJ X (jMain D ad cy) 2 [(0, .ref (ad 0)), (1, .int x1), (2, .int x2)] [] S :=
  jloop_P (α := Int32 × Int32 × jS) (B := (fun g q => f_X11_isLink_2  (fun x1 x2 S => g (x1, x2, S)) k29 k37 q.1 q.2.1 q.2.2)) (P := fun q => jJ X (jMain D ad cy) 2 [(0, .ref (ad 0)), (1, .int q.1), (2, .int q.2.1)] [] q.2.2) (fun g q hg h => p_X11_isLink_2 C Q (g := fun x1 x2 S => g (x1, x2, S)) (fun x1 x2 S h => hg (x1, x2, S) h) hk29 hk37 q.1 q.2.1 q.2.2 h) jN (x1, x2, S) hE
set_option maxRecDepth 100000 in
theorem p_X11_isLink_29 {X : jX} {D : va_G} {ad : Nat → Nat} {cy : Nat → ClassId} (C : jC X (jMain D ad cy) RX11 cX11_isLink (some .boolean) 3 0 0) {z : Int32 × jS} (Q : jRet X (jMain D ad cy) (some (.int z.1), z.2))   (S : jS) (hE : f_X11_isLink_29    S = some z) : jJ X (jMain D ad cy) 29 [] [] S := by
  unfold f_X11_isLink_29 at hE
  refine j_iconst (v := 1) C dX11_isLink_29 jc_ic_1 ?_
  exact j_zret C Q dX11_isLink_30 hE
set_option maxRecDepth 100000 in
theorem p_X11_isLink_37 {X : jX} {D : va_G} {ad : Nat → Nat} {cy : Nat → ClassId} (C : jC X (jMain D ad cy) RX11 cX11_isLink (some .boolean) 3 0 0) {z : Int32 × jS} (Q : jRet X (jMain D ad cy) (some (.int z.1), z.2))   (S : jS) (hE : f_X11_isLink_37    S = some z) : jJ X (jMain D ad cy) 37 [] [] S := by
  unfold f_X11_isLink_37 at hE
  refine j_iconst (v := 0) C dX11_isLink_37 jc_ic_0 ?_
  exact j_zret C Q dX11_isLink_38 hE
set_option maxRecDepth 100000 in
theorem p_X11_isLink_e {X : jX} {D : va_G} {ad : Nat → Nat} {cy : Nat → ClassId} (C : jC X (jMain D ad cy) RX11 cX11_isLink (some .boolean) 3 0 0) {z : Int32 × jS} (Q : jRet X (jMain D ad cy) (some (.int z.1), z.2))  (x1 : Int32) (S : jS) (hE : f_X11_isLink_e   x1 S = some z) : jJ X (jMain D ad cy) 0 [(0, .ref (ad 0)), (1, .int x1)] [] S := by
  unfold f_X11_isLink_e at hE
  refine j_iconst (v := 0) C dX11_isLink_0 jc_ic_0 ?_
  refine j_istore_n (i := 2) (lv' := [(2, .int 0), (0, .ref (ad 0)), (1, .int x1)]) C dX11_isLink_1 rfl (by decide) rfl ?_
  refine j_sub [1, 2, 0] rfl ?_
  exact q_X11_isLink_2 C Q (p_X11_isLink_29 C Q ) (p_X11_isLink_37 C Q ) x1 0 S hE
theorem c_X11_isLink {l : Launch} {D : va_G} {ad : Nat → Nat} {cy : Nat → ClassId} (hO : jOk (jMain D ad cy)) (x1 : Int32) (S : jS) {z : Int32 × jS} (hz : f_X11_isLink x1 S = some z) : Met l yX11_isLink (.code yX11_isLink cX11_isLink 3 (some .boolean) :: jT) { frames := 0, cells := 0, slots := 0, locals := 0 } (va_Pc [.ref (ad 0), .int x1] (jInv (jMain D ad cy) S)) (jQ (jMain D ad cy) (some (.int z.1), z.2)) 0 0 (yA (jMain D ad cy)) :=
  jMet hO (by decide +kernel) rfl (Nat.le_of_ble_eq_true rfl) (fun X _ C Q => p_X11_isLink_e C Q x1 S hz)
theorem k_X11_299_X11_isLink {X : jX} {D : va_G} {ad : Nat → Nat} {cy : Nat → ClassId} {cc : ByteArray} {ret : Option FieldType} {nL fr lo pc : Nat} {lv : List (Nat × Value)} {st : List Value} {S : jS} {β : Type} {z : β} (C : jC X (jMain D ad cy) RX11 cc ret nL fr lo) {a0 : Int32} {E : Int32 → jS → Option β} (d : decode cc pc = .ok (.invokevirtual 299, 3)) (hE : jcl (f_X11_isLink a0 S) E = some z) (hfr : 1 ≤ fr) (hlo : 22 ≤ lo) (hst : (st.map fun v => v.category).sum ≤ 8) (K : ∀ (v : Int32) (S1 : jS), E v S1 = some z → jJ X (jMain D ad cy) (pc + 3) lv (.int v :: st) S1) : jJ X (jMain D ad cy) pc lv (.int a0 :: .ref (ad 0) :: st) S := by
  obtain ⟨v, h1, h2⟩ := jcl_some hE
  exact j_callV (k := 0) (ci := 11) (T := TX11) (N := 16) (n := 1) (As := [.int a0]) C (c_X11_isLink C.2.2.2.2.2.2.1 a0 S h1) tw_710 tw_712 tw_23 tw_69 tw_713 (by decide +kernel) rfl (by decide : 0 < 56) rfl rfl hfr hlo hst rfl d (K _ _ h2)
set_option maxRecDepth 100000 in
theorem p_X11_followChain_63 {X : jX} {D : va_G} {ad : Nat → Nat} {cy : Nat → ClassId} (C : jC X (jMain D ad cy) RX11 cX11_followChain (some .int) 5 2 44) {z : Int32 × jS} (Q : jRet X (jMain D ad cy) (some (.int z.1), z.2)) {g : Int32 → Int32 → Int32 → jS → Option (Int32 × jS)} (hg : ∀ (x2 : Int32) (x3 : Int32) (x4 : Int32) (S : jS), g x2 x3 x4 S = some z → jJ X (jMain D ad cy) 19 [(0, .ref (ad 0)), (2, .int x2), (3, .int x3), (4, .int x4)] [] S) {k86 : Int32 → jS → Option (Int32 × jS)} (hk86 : ∀ (x2 : Int32) (S : jS), k86 x2 S = some z → jJ X (jMain D ad cy) 86 [(2, .int x2)] [] S) (a0 : Int32) (x2 : Int32) (x4 : Int32) (S : jS) (hE : f_X11_followChain_63  g k86 a0 x2 x4 S = some z) : jJ X (jMain D ad cy) 63 [(0, .ref (ad 0)), (2, .int x2), (4, .int x4)] [.int a0] S := by
  unfold f_X11_followChain_63 at hE
  refine j_istore_n (i := 3) (lv' := [(3, .int a0), (0, .ref (ad 0)), (2, .int x2), (4, .int x4)]) C dX11_followChain_63 rfl (by decide) rfl ?_
  refine j_aload_n C dX11_followChain_64 1 rfl ?_
  refine g_X11_63_0 C dX11_followChain_65 ?_
  refine j_iload C dX11_followChain_68 3 rfl ?_
  refine j_iload_n C dX11_followChain_70 2 rfl ?_
  refine s_40 C dX11_followChain_71 hE (fun S1 hE => ?_)
  refine j_aload_n C dX11_followChain_72 1 rfl ?_
  refine j_iload C dX11_followChain_73 3 rfl ?_
  refine j_iconst (v := 1) C dX11_followChain_75 jc_ic_1 ?_
  refine j_iadd C dX11_followChain_76 ?_
  refine p_X11_200_0 C dX11_followChain_77 hE (fun S2 hE => ?_)
  refine j_iinc (v := (x4 + 1)) (lv' := [(4, .int (x4 + 1)), (3, .int a0), (0, .ref (ad 0)), (2, .int x2)]) C dX11_followChain_80 3 rfl (congrArg (fun w => x4 + w) jc_ic_1) (by decide) rfl ?_
  refine j_goto (tgt := 19) C dX11_followChain_83 rfl ?_
  refine j_sub [2, 3, 1, 0] rfl ?_
  exact hg x2 a0 (x4 + 1) S2 hE
set_option maxRecDepth 100000 in
theorem p_X11_followChain_58 {X : jX} {D : va_G} {ad : Nat → Nat} {cy : Nat → ClassId} (C : jC X (jMain D ad cy) RX11 cX11_followChain (some .int) 5 2 44) {z : Int32 × jS} (Q : jRet X (jMain D ad cy) (some (.int z.1), z.2)) {g : Int32 → Int32 → Int32 → jS → Option (Int32 × jS)} (hg : ∀ (x2 : Int32) (x3 : Int32) (x4 : Int32) (S : jS), g x2 x3 x4 S = some z → jJ X (jMain D ad cy) 19 [(0, .ref (ad 0)), (2, .int x2), (3, .int x3), (4, .int x4)] [] S) {k86 : Int32 → jS → Option (Int32 × jS)} (hk86 : ∀ (x2 : Int32) (S : jS), k86 x2 S = some z → jJ X (jMain D ad cy) 86 [(2, .int x2)] [] S) (x2 : Int32) (x4 : Int32) (S : jS) (hE : f_X11_followChain_58  g k86 x2 x4 S = some z) : jJ X (jMain D ad cy) 58 [(0, .ref (ad 0)), (2, .int x2), (4, .int x4)] [] S := by
  unfold f_X11_followChain_58 at hE
  refine j_iconst (v := 1) C dX11_followChain_58 jc_ic_1 ?_
  refine j_goto (tgt := 63) C dX11_followChain_59 rfl ?_
  exact p_X11_followChain_63 C Q hg hk86 1 x2 x4 S hE
set_option maxRecDepth 100000 in
theorem p_X11_followChain_19 {X : jX} {D : va_G} {ad : Nat → Nat} {cy : Nat → ClassId} (C : jC X (jMain D ad cy) RX11 cX11_followChain (some .int) 5 2 44) {z : Int32 × jS} (Q : jRet X (jMain D ad cy) (some (.int z.1), z.2)) {g : Int32 → Int32 → Int32 → jS → Option (Int32 × jS)} (hg : ∀ (x2 : Int32) (x3 : Int32) (x4 : Int32) (S : jS), g x2 x3 x4 S = some z → jJ X (jMain D ad cy) 19 [(0, .ref (ad 0)), (2, .int x2), (3, .int x3), (4, .int x4)] [] S) {k86 : Int32 → jS → Option (Int32 × jS)} (hk86 : ∀ (x2 : Int32) (S : jS), k86 x2 S = some z → jJ X (jMain D ad cy) 86 [(2, .int x2)] [] S) (x2 : Int32) (x3 : Int32) (x4 : Int32) (S : jS) (hE : f_X11_followChain_19  g k86 x2 x3 x4 S = some z) : jJ X (jMain D ad cy) 19 [(0, .ref (ad 0)), (2, .int x2), (3, .int x3), (4, .int x4)] [] S := by
  unfold f_X11_followChain_19 at hE
  refine j_iload C dX11_followChain_19 3 rfl ?_
  refine j_bipush (v := 20) C dX11_followChain_21 jc_bp_20 ?_
  refine j_icmp_gt (tgt := 86) C dX11_followChain_23 rfl hE (fun hE => ?_) (fun hE => ?_)
  · refine j_sub [1] rfl ?_
    exact hk86 x2 S hE
  · refine j_iload_n C dX11_followChain_26 2 rfl ?_
    refine j_if_ne (tgt := 86) C dX11_followChain_27 rfl hE (fun hE => ?_) (fun hE => ?_)
    · refine j_sub [1] rfl ?_
      exact hk86 x2 S hE
    · refine j_aload_n C dX11_followChain_30 0 rfl ?_
      refine g_X11_10_0 C dX11_followChain_31 ?_
      refine j_iload_n C dX11_followChain_34 1 rfl ?_
      refine k_X11_132_X3_partsOf C dX11_followChain_35 hE (Nat.le_of_ble_eq_true rfl) (Nat.le_of_ble_eq_true rfl) (Nat.le_of_ble_eq_true rfl) (fun v2 S1 hE => ?_)
      refine j_istore_n (i := 2) (lv' := [(2, .int v2), (0, .ref (ad 0)), (3, .int x3), (4, .int x4)]) C dX11_followChain_38 rfl (by decide) rfl ?_
      refine j_iload_n C dX11_followChain_39 0 rfl ?_
      refine j_if_eq (tgt := 58) C dX11_followChain_40 rfl hE (fun hE => ?_) (fun hE => ?_)
      · refine j_sub [1, 0, 3] rfl ?_
        exact p_X11_followChain_58 C Q hg hk86 v2 x4 S1 hE
      · refine j_iload_n C dX11_followChain_43 0 rfl ?_
        refine j_sipush (v := 9999) C dX11_followChain_44 jc_sp_9999 ?_
        refine j_icmp_gt (tgt := 58) C dX11_followChain_47 rfl hE (fun hE => ?_) (fun hE => ?_)
        · refine j_sub [1, 0, 3] rfl ?_
          exact p_X11_followChain_58 C Q hg hk86 v2 x4 S1 hE
        · refine j_aload_n C dX11_followChain_50 1 rfl ?_
          refine j_iload_n C dX11_followChain_51 0 rfl ?_
          refine k_X11_299_X11_isLink C dX11_followChain_52 hE (Nat.le_of_ble_eq_true rfl) (Nat.le_of_ble_eq_true rfl) (Nat.le_of_ble_eq_true rfl) (fun v4 S3 hE => ?_)
          refine j_if_eq (tgt := 62) C dX11_followChain_55 rfl hE (fun hE => ?_) (fun hE => ?_)
          · refine j_iconst (v := 0) C dX11_followChain_62 jc_ic_0 ?_
            refine j_sub [1, 0, 3] rfl ?_
            exact p_X11_followChain_63 C Q hg hk86 0 v2 x4 S3 hE
          · refine j_sub [1, 0, 3] rfl ?_
            exact p_X11_followChain_58 C Q hg hk86 v2 x4 S3 hE
theorem q_X11_followChain_19 {X : jX} {D : va_G} {ad : Nat → Nat} {cy : Nat → ClassId} (C : jC X (jMain D ad cy) RX11 cX11_followChain (some .int) 5 2 44) {z : Int32 × jS} (Q : jRet X (jMain D ad cy) (some (.int z.1), z.2)) {k86 : Int32 → jS → Option (Int32 × jS)} (hk86 : ∀ (x2 : Int32) (S : jS), k86 x2 S = some z → jJ X (jMain D ad cy) 86 [(2, .int x2)] [] S) (x2 : Int32) (x3 : Int32) (x4 : Int32) (S : jS) (hE : lp_X11_followChain_19  k86 x2 x3 x4 S = some z) : jJ X (jMain D ad cy) 19 [(0, .ref (ad 0)), (2, .int x2), (3, .int x3), (4, .int x4)] [] S :=
  jloop_P (α := Int32 × Int32 × Int32 × jS) (B := (fun g q => f_X11_followChain_19  (fun x2 x3 x4 S => g (x2, x3, x4, S)) k86 q.1 q.2.1 q.2.2.1 q.2.2.2)) (P := fun q => jJ X (jMain D ad cy) 19 [(0, .ref (ad 0)), (2, .int q.1), (3, .int q.2.1), (4, .int q.2.2.1)] [] q.2.2.2) (fun g q hg h => p_X11_followChain_19 C Q (g := fun x2 x3 x4 S => g (x2, x3, x4, S)) (fun x2 x3 x4 S h => hg (x2, x3, x4, S) h) hk86 q.1 q.2.1 q.2.2.1 q.2.2.2 h) jN (x2, x3, x4, S) hE
set_option maxRecDepth 100000 in
theorem p_X11_followChain_86 {X : jX} {D : va_G} {ad : Nat → Nat} {cy : Nat → ClassId} (C : jC X (jMain D ad cy) RX11 cX11_followChain (some .int) 5 2 44) {z : Int32 × jS} (Q : jRet X (jMain D ad cy) (some (.int z.1), z.2))  (x2 : Int32) (S : jS) (hE : f_X11_followChain_86   x2 S = some z) : jJ X (jMain D ad cy) 86 [(2, .int x2)] [] S := by
  unfold f_X11_followChain_86 at hE
  refine j_iload_n C dX11_followChain_86 0 rfl ?_
  exact j_iret C Q dX11_followChain_87 hE
set_option maxRecDepth 100000 in
theorem p_X11_followChain_e {X : jX} {D : va_G} {ad : Nat → Nat} {cy : Nat → ClassId} (C : jC X (jMain D ad cy) RX11 cX11_followChain (some .int) 5 2 44) {z : Int32 × jS} (Q : jRet X (jMain D ad cy) (some (.int z.1), z.2))  (x1 : Int32) (S : jS) (hE : f_X11_followChain_e   x1 S = some z) : jJ X (jMain D ad cy) 0 [(0, .ref (ad 0)), (1, .int x1)] [] S := by
  unfold f_X11_followChain_e at hE
  refine j_aload_n C dX11_followChain_0 0 rfl ?_
  refine g_X11_63_0 C dX11_followChain_1 ?_
  refine j_iconst (v := 0) C dX11_followChain_4 jc_ic_0 ?_
  refine j_iload_n C dX11_followChain_5 1 rfl ?_
  refine s_40 C dX11_followChain_6 hE (fun S1 hE => ?_)
  refine j_aload_n C dX11_followChain_7 0 rfl ?_
  refine j_iconst (v := 1) C dX11_followChain_8 jc_ic_1 ?_
  refine p_X11_200_0 C dX11_followChain_9 hE (fun S2 hE => ?_)
  refine j_iload_n C dX11_followChain_12 1 rfl ?_
  refine j_istore_n (i := 2) (lv' := [(2, .int x1), (0, .ref (ad 0)), (1, .int x1)]) C dX11_followChain_13 rfl (by decide) rfl ?_
  refine j_iconst (v := 0) C dX11_followChain_14 jc_ic_0 ?_
  refine j_istore_n (i := 3) (lv' := [(3, .int 0), (2, .int x1), (0, .ref (ad 0)), (1, .int x1)]) C dX11_followChain_15 rfl (by decide) rfl ?_
  refine j_iconst (v := 1) C dX11_followChain_16 jc_ic_1 ?_
  refine j_istore (lv' := [(4, .int 1), (3, .int 0), (2, .int x1), (0, .ref (ad 0)), (1, .int x1)]) C dX11_followChain_17 (by decide) rfl ?_
  refine j_sub [3, 2, 1, 0] rfl ?_
  exact q_X11_followChain_19 C Q (p_X11_followChain_86 C Q ) x1 0 1 S2 hE
theorem c_X11_followChain {l : Launch} {D : va_G} {ad : Nat → Nat} {cy : Nat → ClassId} (hO : jOk (jMain D ad cy)) (x1 : Int32) (S : jS) {z : Int32 × jS} (hz : f_X11_followChain x1 S = some z) : Met l yX11_followChain (.code yX11_followChain cX11_followChain 5 (some .int) :: jT) { frames := 2, cells := 0, slots := 0, locals := 44 } (va_Pc [.ref (ad 0), .int x1] (jInv (jMain D ad cy) S)) (jQ (jMain D ad cy) (some (.int z.1), z.2)) 0 0 (yA (jMain D ad cy)) :=
  jMet hO (by decide +kernel) rfl (Nat.le_of_ble_eq_true rfl) (fun X _ C Q => p_X11_followChain_e C Q x1 S hz)
theorem k_X11_197_X11_followChain {X : jX} {D : va_G} {ad : Nat → Nat} {cy : Nat → ClassId} {cc : ByteArray} {ret : Option FieldType} {nL fr lo pc : Nat} {lv : List (Nat × Value)} {st : List Value} {S : jS} {β : Type} {z : β} (C : jC X (jMain D ad cy) RX11 cc ret nL fr lo) {a0 : Int32} {E : Int32 → jS → Option β} (d : decode cc pc = .ok (.invokevirtual 197, 3)) (hE : jcl (f_X11_followChain a0 S) E = some z) (hfr : 3 ≤ fr) (hlo : 68 ≤ lo) (hst : (st.map fun v => v.category).sum ≤ 8) (K : ∀ (v : Int32) (S1 : jS), E v S1 = some z → jJ X (jMain D ad cy) (pc + 3) lv (.int v :: st) S1) : jJ X (jMain D ad cy) pc lv (.int a0 :: .ref (ad 0) :: st) S := by
  obtain ⟨v, h1, h2⟩ := jcl_some hE
  exact j_callV (k := 0) (ci := 11) (T := TX11) (N := 16) (n := 1) (As := [.int a0]) C (c_X11_followChain C.2.2.2.2.2.2.1 a0 S h1) tw_706 tw_708 tw_22 tw_69 tw_709 (by decide +kernel) rfl (by decide : 0 < 56) rfl rfl hfr hlo hst rfl d (K _ _ h2)
set_option maxRecDepth 100000 in
theorem p_X11_chain_16 {X : jX} {D : va_G} {ad : Nat → Nat} {cy : Nat → ClassId} (C : jC X (jMain D ad cy) RX11 cX11_chain (some .int) 4 3 68) {z : Int32 × jS} (Q : jRet X (jMain D ad cy) (some (.int z.1), z.2))   (S : jS) (hE : f_X11_chain_16    S = some z) : jJ X (jMain D ad cy) 16 [(0, .ref (ad 0))] [] S := by
  unfold f_X11_chain_16 at hE
  refine j_aload_n C dX11_chain_16 0 rfl ?_
  refine k_X11_74_X11_refuseBad C dX11_chain_17 hE (Nat.le_of_ble_eq_true rfl) (Nat.le_of_ble_eq_true rfl) (Nat.le_of_ble_eq_true rfl) (fun v2 S1 hE => ?_)
  exact j_iret C Q dX11_chain_20 hE
set_option maxRecDepth 100000 in
theorem p_X11_chain_67 {X : jX} {D : va_G} {ad : Nat → Nat} {cy : Nat → ClassId} (C : jC X (jMain D ad cy) RX11 cX11_chain (some .int) 4 3 68) {z : Int32 × jS} (Q : jRet X (jMain D ad cy) (some (.int z.1), z.2))  (a0 : Int32) (S : jS) (hE : f_X11_chain_67   a0 S = some z) : jJ X (jMain D ad cy) 67 [] [.int a0] S := by
  unfold f_X11_chain_67 at hE
  exact j_iret C Q dX11_chain_67 hE
set_option maxRecDepth 100000 in
theorem p_X11_chain_43 {X : jX} {D : va_G} {ad : Nat → Nat} {cy : Nat → ClassId} (C : jC X (jMain D ad cy) RX11 cX11_chain (some .int) 4 3 68) {z : Int32 × jS} (Q : jRet X (jMain D ad cy) (some (.int z.1), z.2))  (a0 : Int32) (S : jS) (hE : f_X11_chain_43   a0 S = some z) : jJ X (jMain D ad cy) 43 [] [.int a0] S := by
  unfold f_X11_chain_43 at hE
  refine k_X11_139_X11_bit C dX11_chain_43 hE (Nat.le_of_ble_eq_true rfl) (Nat.le_of_ble_eq_true rfl) (Nat.le_of_ble_eq_true rfl) (fun v2 S1 hE => ?_)
  exact j_iret C Q dX11_chain_46 hE
set_option maxRecDepth 100000 in
theorem p_X11_chain_e {X : jX} {D : va_G} {ad : Nat → Nat} {cy : Nat → ClassId} (C : jC X (jMain D ad cy) RX11 cX11_chain (some .int) 4 3 68) {z : Int32 × jS} (Q : jRet X (jMain D ad cy) (some (.int z.1), z.2))  (x1 : Int32) (x2 : Int32) (S : jS) (hE : f_X11_chain_e   x1 x2 S = some z) : jJ X (jMain D ad cy) 0 [(0, .ref (ad 0)), (1, .int x1), (2, .int x2)] [] S := by
  unfold f_X11_chain_e at hE
  refine j_iload_n C dX11_chain_0 1 rfl ?_
  refine k_X11_153_X11_isNumber C dX11_chain_1 hE (Nat.le_of_ble_eq_true rfl) (Nat.le_of_ble_eq_true rfl) (Nat.le_of_ble_eq_true rfl) (fun v2 S1 hE => ?_)
  refine j_if_eq (tgt := 16) C dX11_chain_4 rfl hE (fun hE => ?_) (fun hE => ?_)
  · refine j_sub [0] rfl ?_
    exact p_X11_chain_16 C Q   S1 hE
  · refine j_iload_n C dX11_chain_7 2 rfl ?_
    refine j_if_lt (tgt := 16) C dX11_chain_8 rfl hE (fun hE => ?_) (fun hE => ?_)
    · refine j_sub [0] rfl ?_
      exact p_X11_chain_16 C Q   S1 hE
    · refine j_iload_n C dX11_chain_11 2 rfl ?_
      refine j_iconst (v := 2) C dX11_chain_12 jc_ic_2 ?_
      refine j_icmp_le (tgt := 21) C dX11_chain_13 rfl hE (fun hE => ?_) (fun hE => ?_)
      · refine j_iload_n C dX11_chain_21 2 rfl ?_
        refine j_iconst (v := 2) C dX11_chain_22 jc_ic_2 ?_
        refine j_icmp_ne (tgt := 47) C dX11_chain_23 rfl hE (fun hE => ?_) (fun hE => ?_)
        · refine j_aload_n C dX11_chain_47 0 rfl ?_
          refine j_iload_n C dX11_chain_48 1 rfl ?_
          refine k_X11_197_X11_followChain C dX11_chain_49 hE (Nat.le_of_ble_eq_true rfl) (Nat.le_of_ble_eq_true rfl) (Nat.le_of_ble_eq_true rfl) (fun v4 S3 hE => ?_)
          refine j_istore_n (i := 3) (lv' := [(3, .int v4), (0, .ref (ad 0)), (1, .int x1), (2, .int x2)]) C dX11_chain_52 rfl (by decide) rfl ?_
          refine j_iload_n C dX11_chain_53 3 rfl ?_
          refine j_if_ne (tgt := 66) C dX11_chain_54 rfl hE (fun hE => ?_) (fun hE => ?_)
          · refine j_iload_n C dX11_chain_66 0 rfl ?_
            refine j_sub [] rfl ?_
            exact p_X11_chain_67 C Q  v4 S3 hE
          · refine j_aload_n C dX11_chain_57 1 rfl ?_
            refine g_X11_200_0 C dX11_chain_58 ?_
            refine j_iconst (v := 1) C dX11_chain_61 jc_ic_1 ?_
            refine j_isub C dX11_chain_62 ?_
            refine j_goto (tgt := 67) C dX11_chain_63 rfl ?_
            refine j_sub [] rfl ?_
            exact p_X11_chain_67 C Q  ((S3.1 0 10) - 1) S3 hE
        · refine j_aload_n C dX11_chain_26 0 rfl ?_
          refine g_X11_10_0 C dX11_chain_27 ?_
          refine j_iload_n C dX11_chain_30 1 rfl ?_
          refine k_X11_132_X3_partsOf C dX11_chain_31 hE (Nat.le_of_ble_eq_true rfl) (Nat.le_of_ble_eq_true rfl) (Nat.le_of_ble_eq_true rfl) (fun v6 S5 hE => ?_)
          refine j_iload_n C dX11_chain_34 1 rfl ?_
          refine j_icmp_ne (tgt := 42) C dX11_chain_35 rfl hE (fun hE => ?_) (fun hE => ?_)
          · refine j_iconst (v := 0) C dX11_chain_42 jc_ic_0 ?_
            refine j_sub [] rfl ?_
            exact p_X11_chain_43 C Q  0 S5 hE
          · refine j_iconst (v := 1) C dX11_chain_38 jc_ic_1 ?_
            refine j_goto (tgt := 43) C dX11_chain_39 rfl ?_
            refine j_sub [] rfl ?_
            exact p_X11_chain_43 C Q  1 S5 hE
      · refine j_sub [0] rfl ?_
        exact p_X11_chain_16 C Q   S1 hE
theorem c_X11_chain {l : Launch} {D : va_G} {ad : Nat → Nat} {cy : Nat → ClassId} (hO : jOk (jMain D ad cy)) (x1 : Int32) (x2 : Int32) (S : jS) {z : Int32 × jS} (hz : f_X11_chain x1 x2 S = some z) : Met l yX11_chain (.code yX11_chain cX11_chain 4 (some .int) :: jT) { frames := 3, cells := 0, slots := 0, locals := 68 } (va_Pc [.ref (ad 0), .int x1, .int x2] (jInv (jMain D ad cy) S)) (jQ (jMain D ad cy) (some (.int z.1), z.2)) 0 0 (yA (jMain D ad cy)) :=
  jMet hO (by decide +kernel) rfl (Nat.le_of_ble_eq_true rfl) (fun X _ C Q => p_X11_chain_e C Q x1 x2 S hz)
set_option maxRecDepth 100000 in
theorem p_X12_daysTill_35 {X : jX} {D : va_G} {ad : Nat → Nat} {cy : Nat → ClassId} (C : jC X (jMain D ad cy) RX12 cX12_daysTill (some .int) 3 0 0) {z : Int32 × jS} (Q : jRet X (jMain D ad cy) (some (.int z.1), z.2))  (a0 : Int32) (S : jS) (hE : f_X12_daysTill_35   a0 S = some z) : jJ X (jMain D ad cy) 35 [] [.int a0] S := by
  unfold f_X12_daysTill_35 at hE
  exact j_iret C Q dX12_daysTill_35 hE
set_option maxRecDepth 100000 in
theorem p_X12_daysTill_e {X : jX} {D : va_G} {ad : Nat → Nat} {cy : Nat → ClassId} (C : jC X (jMain D ad cy) RX12 cX12_daysTill (some .int) 3 0 0) {z : Int32 × jS} (Q : jRet X (jMain D ad cy) (some (.int z.1), z.2))  (x1 : Int32) (x2 : Int32) (S : jS) (hE : f_X12_daysTill_e   x1 x2 S = some z) : jJ X (jMain D ad cy) 0 [(0, .ref (ad 41)), (1, .int x1), (2, .int x2)] [] S := by
  unfold f_X12_daysTill_e at hE
  refine j_iload_n C dX12_daysTill_0 2 rfl ?_
  refine j_iload_n C dX12_daysTill_1 1 rfl ?_
  refine j_icmp_gt (tgt := 11) C dX12_daysTill_2 rfl hE (fun hE => ?_) (fun hE => ?_)
  · refine j_aload_n C dX12_daysTill_11 0 rfl ?_
    refine g_X12_7_41 C dX12_daysTill_12 ?_
    refine j_iload_n C dX12_daysTill_15 1 rfl ?_
    refine l_42 C dX12_daysTill_16 hE (fun v1 hE => ?_)
    refine j_iload_n C dX12_daysTill_17 2 rfl ?_
    refine j_iload_n C dX12_daysTill_18 1 rfl ?_
    refine j_isub C dX12_daysTill_19 ?_
    refine j_aload_n C dX12_daysTill_20 0 rfl ?_
    refine g_X12_7_41 C dX12_daysTill_21 ?_
    refine j_iload_n C dX12_daysTill_24 1 rfl ?_
    refine l_42 C dX12_daysTill_25 hE (fun v2 hE => ?_)
    refine j_irem C dX12_daysTill_26 hE (fun v3 hE => ?_)
    refine j_isub C dX12_daysTill_27 ?_
    refine j_aload_n C dX12_daysTill_28 0 rfl ?_
    refine g_X12_7_41 C dX12_daysTill_29 ?_
    refine j_iload_n C dX12_daysTill_32 1 rfl ?_
    refine l_42 C dX12_daysTill_33 hE (fun v4 hE => ?_)
    refine j_irem C dX12_daysTill_34 hE (fun v5 hE => ?_)
    refine j_sub [] rfl ?_
    exact p_X12_daysTill_35 C Q  v5 S hE
  · refine j_iload_n C dX12_daysTill_5 1 rfl ?_
    refine j_iload_n C dX12_daysTill_6 2 rfl ?_
    refine j_isub C dX12_daysTill_7 ?_
    refine j_goto (tgt := 35) C dX12_daysTill_8 rfl ?_
    refine j_sub [] rfl ?_
    exact p_X12_daysTill_35 C Q  (x1 - x2) S hE
theorem c_X12_daysTill {l : Launch} {D : va_G} {ad : Nat → Nat} {cy : Nat → ClassId} (hO : jOk (jMain D ad cy)) (x1 : Int32) (x2 : Int32) (S : jS) {z : Int32 × jS} (hz : f_X12_daysTill x1 x2 S = some z) : Met l yX12_daysTill (.code yX12_daysTill cX12_daysTill 3 (some .int) :: jT) { frames := 0, cells := 0, slots := 0, locals := 0 } (va_Pc [.ref (ad 41), .int x1, .int x2] (jInv (jMain D ad cy) S)) (jQ (jMain D ad cy) (some (.int z.1), z.2)) 0 0 (yA (jMain D ad cy)) :=
  jMet hO (by decide +kernel) rfl (Nat.le_of_ble_eq_true rfl) (fun X _ C Q => p_X12_daysTill_e C Q x1 x2 S hz)
theorem k_X12_181_X12_daysTill {X : jX} {D : va_G} {ad : Nat → Nat} {cy : Nat → ClassId} {cc : ByteArray} {ret : Option FieldType} {nL fr lo pc : Nat} {lv : List (Nat × Value)} {st : List Value} {S : jS} {β : Type} {z : β} (C : jC X (jMain D ad cy) RX12 cc ret nL fr lo) {a0 : Int32} {a1 : Int32} {E : Int32 → jS → Option β} (d : decode cc pc = .ok (.invokevirtual 181, 3)) (hE : jcl (f_X12_daysTill a0 a1 S) E = some z) (hfr : 1 ≤ fr) (hlo : 22 ≤ lo) (hst : (st.map fun v => v.category).sum ≤ 8) (K : ∀ (v : Int32) (S1 : jS), E v S1 = some z → jJ X (jMain D ad cy) (pc + 3) lv (.int v :: st) S1) : jJ X (jMain D ad cy) pc lv (.int a1 :: .int a0 :: .ref (ad 41) :: st) S := by
  obtain ⟨v, h1, h2⟩ := jcl_some hE
  exact j_callV (k := 41) (ci := 12) (T := TX12) (N := 25) (n := 2) (As := [.int a0, .int a1]) C (c_X12_daysTill C.2.2.2.2.2.2.1 a0 a1 S h1) tw_1137 tw_1139 tw_54 tw_81 tw_1140 (by decide +kernel) rfl (by decide : 41 < 56) rfl rfl hfr hlo hst rfl d (K _ _ h2)
set_option maxRecDepth 100000 in
theorem p_X12_meet_78 {X : jX} {D : va_G} {ad : Nat → Nat} {cy : Nat → ClassId} (C : jC X (jMain D ad cy) RX12 cX12_meet (some .int) 6 1 22) {z : Int32 × jS} (Q : jRet X (jMain D ad cy) (some (.int z.1), z.2)) {g : Int32 → Int32 → Int32 → Int32 → jS → Option (Int32 × jS)} (hg : ∀ (x1 : Int32) (x2 : Int32) (x3 : Int32) (x4 : Int32) (S : jS), g x1 x2 x3 x4 S = some z → jJ X (jMain D ad cy) 21 [(0, .ref (ad 41)), (1, .int x1), (2, .int x2), (3, .int x3), (4, .int x4)] [] S) {k85 : Int32 → Int32 → Int32 → jS → Option (Int32 × jS)} (hk85 : ∀ (x1 : Int32) (x2 : Int32) (x3 : Int32) (S : jS), k85 x1 x2 x3 S = some z → jJ X (jMain D ad cy) 85 [(0, .ref (ad 41)), (1, .int x1), (2, .int x2), (3, .int x3)] [] S) (a0 : Int32) (x1 : Int32) (x2 : Int32) (x4 : Int32) (S : jS) (hE : f_X12_meet_78  g k85 a0 x1 x2 x4 S = some z) : jJ X (jMain D ad cy) 78 [(0, .ref (ad 41)), (1, .int x1), (2, .int x2), (4, .int x4)] [.int a0] S := by
  unfold f_X12_meet_78 at hE
  refine j_istore_n (i := 3) (lv' := [(3, .int a0), (0, .ref (ad 41)), (1, .int x1), (2, .int x2), (4, .int x4)]) C dX12_meet_78 rfl (by decide) rfl ?_
  refine j_iinc (v := (x4 + 1)) (lv' := [(4, .int (x4 + 1)), (3, .int a0), (0, .ref (ad 41)), (1, .int x1), (2, .int x2)]) C dX12_meet_79 4 rfl (congrArg (fun w => x4 + w) jc_ic_1) (by decide) rfl ?_
  refine j_goto (tgt := 21) C dX12_meet_82 rfl ?_
  refine j_sub [2, 3, 4, 1, 0] rfl ?_
  exact hg x1 x2 a0 (x4 + 1) S hE
set_option maxRecDepth 100000 in
theorem p_X12_meet_65 {X : jX} {D : va_G} {ad : Nat → Nat} {cy : Nat → ClassId} (C : jC X (jMain D ad cy) RX12 cX12_meet (some .int) 6 1 22) {z : Int32 × jS} (Q : jRet X (jMain D ad cy) (some (.int z.1), z.2)) {g : Int32 → Int32 → Int32 → Int32 → jS → Option (Int32 × jS)} (hg : ∀ (x1 : Int32) (x2 : Int32) (x3 : Int32) (x4 : Int32) (S : jS), g x1 x2 x3 x4 S = some z → jJ X (jMain D ad cy) 21 [(0, .ref (ad 41)), (1, .int x1), (2, .int x2), (3, .int x3), (4, .int x4)] [] S) {k85 : Int32 → Int32 → Int32 → jS → Option (Int32 × jS)} (hk85 : ∀ (x1 : Int32) (x2 : Int32) (x3 : Int32) (S : jS), k85 x1 x2 x3 S = some z → jJ X (jMain D ad cy) 85 [(0, .ref (ad 41)), (1, .int x1), (2, .int x2), (3, .int x3)] [] S) (a0 : Int32) (x1 : Int32) (x3 : Int32) (x4 : Int32) (x5 : Int32) (S : jS) (hE : f_X12_meet_65  g k85 a0 x1 x3 x4 x5 S = some z) : jJ X (jMain D ad cy) 65 [(0, .ref (ad 41)), (1, .int x1), (3, .int x3), (4, .int x4), (5, .int x5)] [.int a0] S := by
  unfold f_X12_meet_65 at hE
  refine j_istore_n (i := 2) (lv' := [(2, .int a0), (0, .ref (ad 41)), (1, .int x1), (3, .int x3), (4, .int x4), (5, .int x5)]) C dX12_meet_65 rfl (by decide) rfl ?_
  refine j_iload C dX12_meet_66 5 rfl ?_
  refine j_iload_n C dX12_meet_68 3 rfl ?_
  refine j_icmp_le (tgt := 77) C dX12_meet_69 rfl hE (fun hE => ?_) (fun hE => ?_)
  · refine j_iload_n C dX12_meet_77 3 rfl ?_
    refine j_sub [1, 2, 0, 4] rfl ?_
    exact p_X12_meet_78 C Q hg hk85 x3 x1 a0 x4 S hE
  · refine j_iload C dX12_meet_72 5 rfl ?_
    refine j_goto (tgt := 78) C dX12_meet_74 rfl ?_
    refine j_sub [1, 2, 0, 4] rfl ?_
    exact p_X12_meet_78 C Q hg hk85 x5 x1 a0 x4 S hE
set_option maxRecDepth 100000 in
theorem p_X12_meet_64 {X : jX} {D : va_G} {ad : Nat → Nat} {cy : Nat → ClassId} (C : jC X (jMain D ad cy) RX12 cX12_meet (some .int) 6 1 22) {z : Int32 × jS} (Q : jRet X (jMain D ad cy) (some (.int z.1), z.2)) {g : Int32 → Int32 → Int32 → Int32 → jS → Option (Int32 × jS)} (hg : ∀ (x1 : Int32) (x2 : Int32) (x3 : Int32) (x4 : Int32) (S : jS), g x1 x2 x3 x4 S = some z → jJ X (jMain D ad cy) 21 [(0, .ref (ad 41)), (1, .int x1), (2, .int x2), (3, .int x3), (4, .int x4)] [] S) {k85 : Int32 → Int32 → Int32 → jS → Option (Int32 × jS)} (hk85 : ∀ (x1 : Int32) (x2 : Int32) (x3 : Int32) (S : jS), k85 x1 x2 x3 S = some z → jJ X (jMain D ad cy) 85 [(0, .ref (ad 41)), (1, .int x1), (2, .int x2), (3, .int x3)] [] S) (x1 : Int32) (x3 : Int32) (x4 : Int32) (x5 : Int32) (S : jS) (hE : f_X12_meet_64  g k85 x1 x3 x4 x5 S = some z) : jJ X (jMain D ad cy) 64 [(0, .ref (ad 41)), (1, .int x1), (3, .int x3), (4, .int x4), (5, .int x5)] [] S := by
  unfold f_X12_meet_64 at hE
  refine j_iconst (v := 0) C dX12_meet_64 jc_ic_0 ?_
  exact p_X12_meet_65 C Q hg hk85 0 x1 x3 x4 x5 S hE
set_option maxRecDepth 100000 in
theorem p_X12_meet_49 {X : jX} {D : va_G} {ad : Nat → Nat} {cy : Nat → ClassId} (C : jC X (jMain D ad cy) RX12 cX12_meet (some .int) 6 1 22) {z : Int32 × jS} (Q : jRet X (jMain D ad cy) (some (.int z.1), z.2)) {g : Int32 → Int32 → Int32 → Int32 → jS → Option (Int32 × jS)} (hg : ∀ (x1 : Int32) (x2 : Int32) (x3 : Int32) (x4 : Int32) (S : jS), g x1 x2 x3 x4 S = some z → jJ X (jMain D ad cy) 21 [(0, .ref (ad 41)), (1, .int x1), (2, .int x2), (3, .int x3), (4, .int x4)] [] S) {k85 : Int32 → Int32 → Int32 → jS → Option (Int32 × jS)} (hk85 : ∀ (x1 : Int32) (x2 : Int32) (x3 : Int32) (S : jS), k85 x1 x2 x3 S = some z → jJ X (jMain D ad cy) 85 [(0, .ref (ad 41)), (1, .int x1), (2, .int x2), (3, .int x3)] [] S) (a0 : Int32) (x1 : Int32) (x2 : Int32) (x3 : Int32) (x4 : Int32) (S : jS) (hE : f_X12_meet_49  g k85 a0 x1 x2 x3 x4 S = some z) : jJ X (jMain D ad cy) 49 [(0, .ref (ad 41)), (1, .int x1), (2, .int x2), (3, .int x3), (4, .int x4)] [.int a0] S := by
  unfold f_X12_meet_49 at hE
  refine j_istore (lv' := [(5, .int a0), (0, .ref (ad 41)), (1, .int x1), (2, .int x2), (3, .int x3), (4, .int x4)]) C dX12_meet_49 (by decide) rfl ?_
  refine j_iload_n C dX12_meet_51 3 rfl ?_
  refine j_if_eq (tgt := 64) C dX12_meet_52 rfl hE (fun hE => ?_) (fun hE => ?_)
  · refine j_sub [1, 2, 4, 5, 0] rfl ?_
    exact p_X12_meet_64 C Q hg hk85 x1 x3 x4 a0 S hE
  · refine j_iload C dX12_meet_55 0 rfl ?_
    refine j_if_ne (tgt := 64) C dX12_meet_57 rfl hE (fun hE => ?_) (fun hE => ?_)
    · refine j_sub [1, 2, 4, 5, 0] rfl ?_
      exact p_X12_meet_64 C Q hg hk85 x1 x3 x4 a0 S hE
    · refine j_iconst (v := 1) C dX12_meet_60 jc_ic_1 ?_
      refine j_goto (tgt := 65) C dX12_meet_61 rfl ?_
      refine j_sub [1, 2, 4, 5, 0] rfl ?_
      exact p_X12_meet_65 C Q hg hk85 1 x1 x3 x4 a0 S hE
set_option maxRecDepth 100000 in
theorem p_X12_meet_21 {X : jX} {D : va_G} {ad : Nat → Nat} {cy : Nat → ClassId} (C : jC X (jMain D ad cy) RX12 cX12_meet (some .int) 6 1 22) {z : Int32 × jS} (Q : jRet X (jMain D ad cy) (some (.int z.1), z.2)) {g : Int32 → Int32 → Int32 → Int32 → jS → Option (Int32 × jS)} (hg : ∀ (x1 : Int32) (x2 : Int32) (x3 : Int32) (x4 : Int32) (S : jS), g x1 x2 x3 x4 S = some z → jJ X (jMain D ad cy) 21 [(0, .ref (ad 41)), (1, .int x1), (2, .int x2), (3, .int x3), (4, .int x4)] [] S) {k85 : Int32 → Int32 → Int32 → jS → Option (Int32 × jS)} (hk85 : ∀ (x1 : Int32) (x2 : Int32) (x3 : Int32) (S : jS), k85 x1 x2 x3 S = some z → jJ X (jMain D ad cy) 85 [(0, .ref (ad 41)), (1, .int x1), (2, .int x2), (3, .int x3)] [] S) (x1 : Int32) (x2 : Int32) (x3 : Int32) (x4 : Int32) (S : jS) (hE : f_X12_meet_21  g k85 x1 x2 x3 x4 S = some z) : jJ X (jMain D ad cy) 21 [(0, .ref (ad 41)), (1, .int x1), (2, .int x2), (3, .int x3), (4, .int x4)] [] S := by
  unfold f_X12_meet_21 at hE
  refine j_iload C dX12_meet_21 4 rfl ?_
  refine j_bipush (v := 8) C dX12_meet_23 jc_bp_8 ?_
  refine j_icmp_ge (tgt := 85) C dX12_meet_25 rfl hE (fun hE => ?_) (fun hE => ?_)
  · refine j_sub [0, 1, 2, 3] rfl ?_
    exact hk85 x1 x2 x3 S hE
  · refine j_aload_n C dX12_meet_28 0 rfl ?_
    refine g_X12_7_41 C dX12_meet_29 ?_
    refine j_iload C dX12_meet_32 4 rfl ?_
    refine l_42 C dX12_meet_34 hE (fun v1 hE => ?_)
    refine j_if_le (tgt := 48) C dX12_meet_35 rfl hE (fun hE => ?_) (fun hE => ?_)
    · refine j_iconst (v := 0) C dX12_meet_48 jc_ic_0 ?_
      exact p_X12_meet_49 C Q hg hk85 0 x1 x2 x3 x4 S hE
    · refine j_aload_n C dX12_meet_38 0 rfl ?_
      refine j_iload C dX12_meet_39 4 rfl ?_
      refine j_iload_n C dX12_meet_41 1 rfl ?_
      refine k_X12_181_X12_daysTill C dX12_meet_42 hE (Nat.le_of_ble_eq_true rfl) (Nat.le_of_ble_eq_true rfl) (Nat.le_of_ble_eq_true rfl) (fun v3 S2 hE => ?_)
      refine j_goto (tgt := 49) C dX12_meet_45 rfl ?_
      exact p_X12_meet_49 C Q hg hk85 v3 x1 x2 x3 x4 S2 hE
theorem q_X12_meet_21 {X : jX} {D : va_G} {ad : Nat → Nat} {cy : Nat → ClassId} (C : jC X (jMain D ad cy) RX12 cX12_meet (some .int) 6 1 22) {z : Int32 × jS} (Q : jRet X (jMain D ad cy) (some (.int z.1), z.2)) {k85 : Int32 → Int32 → Int32 → jS → Option (Int32 × jS)} (hk85 : ∀ (x1 : Int32) (x2 : Int32) (x3 : Int32) (S : jS), k85 x1 x2 x3 S = some z → jJ X (jMain D ad cy) 85 [(0, .ref (ad 41)), (1, .int x1), (2, .int x2), (3, .int x3)] [] S) (x1 : Int32) (x2 : Int32) (x3 : Int32) (x4 : Int32) (S : jS) (hE : lp_X12_meet_21  k85 x1 x2 x3 x4 S = some z) : jJ X (jMain D ad cy) 21 [(0, .ref (ad 41)), (1, .int x1), (2, .int x2), (3, .int x3), (4, .int x4)] [] S :=
  jloop_P (α := Int32 × Int32 × Int32 × Int32 × jS) (B := (fun g q => f_X12_meet_21  (fun x1 x2 x3 x4 S => g (x1, x2, x3, x4, S)) k85 q.1 q.2.1 q.2.2.1 q.2.2.2.1 q.2.2.2.2)) (P := fun q => jJ X (jMain D ad cy) 21 [(0, .ref (ad 41)), (1, .int q.1), (2, .int q.2.1), (3, .int q.2.2.1), (4, .int q.2.2.2.1)] [] q.2.2.2.2) (fun g q hg h => p_X12_meet_21 C Q (g := fun x1 x2 x3 x4 S => g (x1, x2, x3, x4, S)) (fun x1 x2 x3 x4 S h => hg (x1, x2, x3, x4, S) h) hk85 q.1 q.2.1 q.2.2.1 q.2.2.2.1 q.2.2.2.2 h) jN (x1, x2, x3, x4, S) hE
set_option maxRecDepth 100000 in
theorem p_X12_meet_85 {X : jX} {D : va_G} {ad : Nat → Nat} {cy : Nat → ClassId} (C : jC X (jMain D ad cy) RX12 cX12_meet (some .int) 6 1 22) {z : Int32 × jS} (Q : jRet X (jMain D ad cy) (some (.int z.1), z.2)) {g : Int32 → Int32 → jS → Option (Int32 × jS)} (hg : ∀ (x1 : Int32) (x2 : Int32) (S : jS), g x1 x2 S = some z → jJ X (jMain D ad cy) 4 [(0, .ref (ad 41)), (1, .int x1), (2, .int x2)] [] S) {k92 : Int32 → Int32 → jS → Option (Int32 × jS)} (hk92 : ∀ (x1 : Int32) (x2 : Int32) (S : jS), k92 x1 x2 S = some z → jJ X (jMain D ad cy) 92 [(1, .int x1), (2, .int x2)] [] S) (x1 : Int32) (x2 : Int32) (x3 : Int32) (S : jS) (hE : f_X12_meet_85  g k92 x1 x2 x3 S = some z) : jJ X (jMain D ad cy) 85 [(0, .ref (ad 41)), (1, .int x1), (2, .int x2), (3, .int x3)] [] S := by
  unfold f_X12_meet_85 at hE
  refine j_iload_n C dX12_meet_85 1 rfl ?_
  refine j_iload_n C dX12_meet_86 3 rfl ?_
  refine j_iadd C dX12_meet_87 ?_
  refine j_istore_n (i := 1) (lv' := [(1, .int (x1 + x3)), (0, .ref (ad 41)), (2, .int x2), (3, .int x3)]) C dX12_meet_88 rfl (by decide) rfl ?_
  refine j_goto (tgt := 4) C dX12_meet_89 rfl ?_
  refine j_sub [1, 0, 2] rfl ?_
  exact hg (x1 + x3) x2 S hE
set_option maxRecDepth 100000 in
theorem p_X12_meet_4 {X : jX} {D : va_G} {ad : Nat → Nat} {cy : Nat → ClassId} (C : jC X (jMain D ad cy) RX12 cX12_meet (some .int) 6 1 22) {z : Int32 × jS} (Q : jRet X (jMain D ad cy) (some (.int z.1), z.2)) {g : Int32 → Int32 → jS → Option (Int32 × jS)} (hg : ∀ (x1 : Int32) (x2 : Int32) (S : jS), g x1 x2 S = some z → jJ X (jMain D ad cy) 4 [(0, .ref (ad 41)), (1, .int x1), (2, .int x2)] [] S) {k92 : Int32 → Int32 → jS → Option (Int32 × jS)} (hk92 : ∀ (x1 : Int32) (x2 : Int32) (S : jS), k92 x1 x2 S = some z → jJ X (jMain D ad cy) 92 [(1, .int x1), (2, .int x2)] [] S) (x1 : Int32) (x2 : Int32) (S : jS) (hE : f_X12_meet_4  g k92 x1 x2 S = some z) : jJ X (jMain D ad cy) 4 [(0, .ref (ad 41)), (1, .int x1), (2, .int x2)] [] S := by
  unfold f_X12_meet_4 at hE
  refine j_iload_n C dX12_meet_4 1 rfl ?_
  refine j_ldc (v := 100000) C dX12_meet_5 tw_1136 ?_
  refine j_icmp_ge (tgt := 92) C dX12_meet_7 rfl hE (fun hE => ?_) (fun hE => ?_)
  · refine j_sub [1, 2] rfl ?_
    exact hk92 x1 x2 S hE
  · refine j_iload_n C dX12_meet_10 2 rfl ?_
    refine j_if_ne (tgt := 92) C dX12_meet_11 rfl hE (fun hE => ?_) (fun hE => ?_)
    · refine j_sub [1, 2] rfl ?_
      exact hk92 x1 x2 S hE
    · refine j_iconst (v := 1) C dX12_meet_14 jc_ic_1 ?_
      refine j_istore_n (i := 2) (lv' := [(2, .int 1), (0, .ref (ad 41)), (1, .int x1)]) C dX12_meet_15 rfl (by decide) rfl ?_
      refine j_iconst (v := 0) C dX12_meet_16 jc_ic_0 ?_
      refine j_istore_n (i := 3) (lv' := [(3, .int 0), (2, .int 1), (0, .ref (ad 41)), (1, .int x1)]) C dX12_meet_17 rfl (by decide) rfl ?_
      refine j_iconst (v := 0) C dX12_meet_18 jc_ic_0 ?_
      refine j_istore (lv' := [(4, .int 0), (3, .int 0), (2, .int 1), (0, .ref (ad 41)), (1, .int x1)]) C dX12_meet_19 (by decide) rfl ?_
      refine j_sub [3, 4, 2, 1, 0] rfl ?_
      exact q_X12_meet_21 C Q (p_X12_meet_85 C Q hg hk92) x1 1 0 0 S hE
theorem q_X12_meet_4 {X : jX} {D : va_G} {ad : Nat → Nat} {cy : Nat → ClassId} (C : jC X (jMain D ad cy) RX12 cX12_meet (some .int) 6 1 22) {z : Int32 × jS} (Q : jRet X (jMain D ad cy) (some (.int z.1), z.2)) {k92 : Int32 → Int32 → jS → Option (Int32 × jS)} (hk92 : ∀ (x1 : Int32) (x2 : Int32) (S : jS), k92 x1 x2 S = some z → jJ X (jMain D ad cy) 92 [(1, .int x1), (2, .int x2)] [] S) (x1 : Int32) (x2 : Int32) (S : jS) (hE : lp_X12_meet_4  k92 x1 x2 S = some z) : jJ X (jMain D ad cy) 4 [(0, .ref (ad 41)), (1, .int x1), (2, .int x2)] [] S :=
  jloop_P (α := Int32 × Int32 × jS) (B := (fun g q => f_X12_meet_4  (fun x1 x2 S => g (x1, x2, S)) k92 q.1 q.2.1 q.2.2)) (P := fun q => jJ X (jMain D ad cy) 4 [(0, .ref (ad 41)), (1, .int q.1), (2, .int q.2.1)] [] q.2.2) (fun g q hg h => p_X12_meet_4 C Q (g := fun x1 x2 S => g (x1, x2, S)) (fun x1 x2 S h => hg (x1, x2, S) h) hk92 q.1 q.2.1 q.2.2 h) jN (x1, x2, S) hE
set_option maxRecDepth 100000 in
theorem p_X12_meet_107 {X : jX} {D : va_G} {ad : Nat → Nat} {cy : Nat → ClassId} (C : jC X (jMain D ad cy) RX12 cX12_meet (some .int) 6 1 22) {z : Int32 × jS} (Q : jRet X (jMain D ad cy) (some (.int z.1), z.2))  (a0 : Int32) (S : jS) (hE : f_X12_meet_107   a0 S = some z) : jJ X (jMain D ad cy) 107 [] [.int a0] S := by
  unfold f_X12_meet_107 at hE
  exact j_iret C Q dX12_meet_107 hE
set_option maxRecDepth 100000 in
theorem p_X12_meet_106 {X : jX} {D : va_G} {ad : Nat → Nat} {cy : Nat → ClassId} (C : jC X (jMain D ad cy) RX12 cX12_meet (some .int) 6 1 22) {z : Int32 × jS} (Q : jRet X (jMain D ad cy) (some (.int z.1), z.2))   (S : jS) (hE : f_X12_meet_106    S = some z) : jJ X (jMain D ad cy) 106 [] [] S := by
  unfold f_X12_meet_106 at hE
  refine j_iconst (v := (-1)) C dX12_meet_106 jc_ic_m1 ?_
  exact p_X12_meet_107 C Q  (-1) S hE
set_option maxRecDepth 100000 in
theorem p_X12_meet_92 {X : jX} {D : va_G} {ad : Nat → Nat} {cy : Nat → ClassId} (C : jC X (jMain D ad cy) RX12 cX12_meet (some .int) 6 1 22) {z : Int32 × jS} (Q : jRet X (jMain D ad cy) (some (.int z.1), z.2))  (x1 : Int32) (x2 : Int32) (S : jS) (hE : f_X12_meet_92   x1 x2 S = some z) : jJ X (jMain D ad cy) 92 [(1, .int x1), (2, .int x2)] [] S := by
  unfold f_X12_meet_92 at hE
  refine j_iload_n C dX12_meet_92 1 rfl ?_
  refine j_if_eq (tgt := 106) C dX12_meet_93 rfl hE (fun hE => ?_) (fun hE => ?_)
  · refine j_sub [] rfl ?_
    exact p_X12_meet_106 C Q   S hE
  · refine j_iload_n C dX12_meet_96 0 rfl ?_
    refine j_ldc (v := 100000) C dX12_meet_97 tw_1136 ?_
    refine j_icmp_ge (tgt := 106) C dX12_meet_99 rfl hE (fun hE => ?_) (fun hE => ?_)
    · refine j_sub [] rfl ?_
      exact p_X12_meet_106 C Q   S hE
    · refine j_iload_n C dX12_meet_102 0 rfl ?_
      refine j_goto (tgt := 107) C dX12_meet_103 rfl ?_
      refine j_sub [] rfl ?_
      exact p_X12_meet_107 C Q  x1 S hE
set_option maxRecDepth 100000 in
theorem p_X12_meet_e {X : jX} {D : va_G} {ad : Nat → Nat} {cy : Nat → ClassId} (C : jC X (jMain D ad cy) RX12 cX12_meet (some .int) 6 1 22) {z : Int32 × jS} (Q : jRet X (jMain D ad cy) (some (.int z.1), z.2))   (S : jS) (hE : f_X12_meet_e    S = some z) : jJ X (jMain D ad cy) 0 [(0, .ref (ad 41))] [] S := by
  unfold f_X12_meet_e at hE
  refine j_iconst (v := 0) C dX12_meet_0 jc_ic_0 ?_
  refine j_istore_n (i := 1) (lv' := [(1, .int 0), (0, .ref (ad 41))]) C dX12_meet_1 rfl (by decide) rfl ?_
  refine j_iconst (v := 0) C dX12_meet_2 jc_ic_0 ?_
  refine j_istore_n (i := 2) (lv' := [(2, .int 0), (1, .int 0), (0, .ref (ad 41))]) C dX12_meet_3 rfl (by decide) rfl ?_
  refine j_sub [2, 1, 0] rfl ?_
  exact q_X12_meet_4 C Q (p_X12_meet_92 C Q ) 0 0 S hE
theorem c_X12_meet {l : Launch} {D : va_G} {ad : Nat → Nat} {cy : Nat → ClassId} (hO : jOk (jMain D ad cy))  (S : jS) {z : Int32 × jS} (hz : f_X12_meet  S = some z) : Met l yX12_meet (.code yX12_meet cX12_meet 6 (some .int) :: jT) { frames := 1, cells := 0, slots := 0, locals := 22 } (va_Pc [.ref (ad 41)] (jInv (jMain D ad cy) S)) (jQ (jMain D ad cy) (some (.int z.1), z.2)) 0 0 (yA (jMain D ad cy)) :=
  jMet hO (by decide +kernel) rfl (Nat.le_of_ble_eq_true rfl) (fun X _ C Q => p_X12_meet_e C Q  S hz)
set_option maxRecDepth 100000 in
theorem p_X11_isThere_22 {X : jX} {D : va_G} {ad : Nat → Nat} {cy : Nat → ClassId} (C : jC X (jMain D ad cy) RX11 cX11_isThere (some .boolean) 3 0 0) {z : Int32 × jS} (Q : jRet X (jMain D ad cy) (some (.int z.1), z.2))  (a0 : Int32) (S : jS) (hE : f_X11_isThere_22   a0 S = some z) : jJ X (jMain D ad cy) 22 [] [.int a0] S := by
  unfold f_X11_isThere_22 at hE
  exact j_zret C Q dX11_isThere_22 hE
set_option maxRecDepth 100000 in
theorem p_X11_isThere_21 {X : jX} {D : va_G} {ad : Nat → Nat} {cy : Nat → ClassId} (C : jC X (jMain D ad cy) RX11 cX11_isThere (some .boolean) 3 0 0) {z : Int32 × jS} (Q : jRet X (jMain D ad cy) (some (.int z.1), z.2))   (S : jS) (hE : f_X11_isThere_21    S = some z) : jJ X (jMain D ad cy) 21 [] [] S := by
  unfold f_X11_isThere_21 at hE
  refine j_iconst (v := 0) C dX11_isThere_21 jc_ic_0 ?_
  exact p_X11_isThere_22 C Q  0 S hE
set_option maxRecDepth 100000 in
theorem p_X11_isThere_e {X : jX} {D : va_G} {ad : Nat → Nat} {cy : Nat → ClassId} (C : jC X (jMain D ad cy) RX11 cX11_isThere (some .boolean) 3 0 0) {z : Int32 × jS} (Q : jRet X (jMain D ad cy) (some (.int z.1), z.2))  (x0 : Int32) (x1 : Int32) (x2 : Int32) (S : jS) (hE : f_X11_isThere_e   x0 x1 x2 S = some z) : jJ X (jMain D ad cy) 0 [(0, .int x0), (1, .int x1), (2, .int x2)] [] S := by
  unfold f_X11_isThere_e at hE
  refine j_iload_n C dX11_isThere_0 0 rfl ?_
  refine j_iload_n C dX11_isThere_1 1 rfl ?_
  refine j_icmp_lt (tgt := 21) C dX11_isThere_2 rfl hE (fun hE => ?_) (fun hE => ?_)
  · refine j_sub [] rfl ?_
    exact p_X11_isThere_21 C Q   S hE
  · refine j_iload_n C dX11_isThere_5 2 rfl ?_
    refine j_if_le (tgt := 21) C dX11_isThere_6 rfl hE (fun hE => ?_) (fun hE => ?_)
    · refine j_sub [] rfl ?_
      exact p_X11_isThere_21 C Q   S hE
    · refine j_iload_n C dX11_isThere_9 0 rfl ?_
      refine j_iload_n C dX11_isThere_10 1 rfl ?_
      refine j_isub C dX11_isThere_11 ?_
      refine j_iload_n C dX11_isThere_12 2 rfl ?_
      refine j_irem C dX11_isThere_13 hE (fun v1 hE => ?_)
      refine j_if_ne (tgt := 21) C dX11_isThere_14 rfl hE (fun hE => ?_) (fun hE => ?_)
      · refine j_sub [] rfl ?_
        exact p_X11_isThere_21 C Q   S hE
      · refine j_iconst (v := 1) C dX11_isThere_17 jc_ic_1 ?_
        refine j_goto (tgt := 22) C dX11_isThere_18 rfl ?_
        refine j_sub [] rfl ?_
        exact p_X11_isThere_22 C Q  1 S hE
theorem c_X11_isThere {l : Launch} {D : va_G} {ad : Nat → Nat} {cy : Nat → ClassId} (hO : jOk (jMain D ad cy)) (x0 : Int32) (x1 : Int32) (x2 : Int32) (S : jS) {z : Int32 × jS} (hz : f_X11_isThere x0 x1 x2 S = some z) : Met l yX11_isThere (.code yX11_isThere cX11_isThere 3 (some .boolean) :: jT) { frames := 0, cells := 0, slots := 0, locals := 0 } (va_Pc [.int x0, .int x1, .int x2] (jInv (jMain D ad cy) S)) (jQ (jMain D ad cy) (some (.int z.1), z.2)) 0 0 (yA (jMain D ad cy)) :=
  jMet hO (by decide +kernel) rfl (Nat.le_of_ble_eq_true rfl) (fun X _ C Q => p_X11_isThere_e C Q x0 x1 x2 S hz)
theorem k_X11_302_X11_isThere {X : jX} {D : va_G} {ad : Nat → Nat} {cy : Nat → ClassId} {cc : ByteArray} {ret : Option FieldType} {nL fr lo pc : Nat} {lv : List (Nat × Value)} {st : List Value} {S : jS} {β : Type} {z : β} (C : jC X (jMain D ad cy) RX11 cc ret nL fr lo) {a0 : Int32} {a1 : Int32} {a2 : Int32} {E : Int32 → jS → Option β} (d : decode cc pc = .ok (.invokestatic 302, 3)) (hE : jcl (f_X11_isThere a0 a1 a2 S) E = some z) (hfr : 1 ≤ fr) (hlo : 22 ≤ lo) (hst : (st.map fun v => v.category).sum ≤ 8) (K : ∀ (v : Int32) (S1 : jS), E v S1 = some z → jJ X (jMain D ad cy) (pc + 3) lv (.int v :: st) S1) : jJ X (jMain D ad cy) pc lv (.int a2 :: .int a1 :: .int a0 :: st) S := by
  obtain ⟨v, h1, h2⟩ := jcl_some hE
  exact j_callS (n := 3) (As := [.int a0, .int a1, .int a2]) C (c_X11_isThere C.2.2.2.2.2.2.1 a0 a1 a2 S h1) tw_722 tw_723 tw_69 tw_724 (by decide +kernel) rfl hfr hlo hst rfl d (K _ _ h2)
set_option maxRecDepth 100000 in
theorem p_X11_firstShared_6 {X : jX} {D : va_G} {ad : Nat → Nat} {cy : Nat → ClassId} (C : jC X (jMain D ad cy) RX11 cX11_firstShared (some .int) 6 1 22) {z : Int32 × jS} (Q : jRet X (jMain D ad cy) (some (.int z.1), z.2)) {g : Int32 → Int32 → Int32 → Int32 → Int32 → jS → Option (Int32 × jS)} (hg : ∀ (x1 : Int32) (x2 : Int32) (x3 : Int32) (x4 : Int32) (x5 : Int32) (S : jS), g x1 x2 x3 x4 x5 S = some z → jJ X (jMain D ad cy) 6 [(1, .int x1), (2, .int x2), (3, .int x3), (4, .int x4), (5, .int x5)] [] S) {k42 : Int32 → jS → Option (Int32 × jS)} (hk42 : ∀ (x4 : Int32) (S : jS), k42 x4 S = some z → jJ X (jMain D ad cy) 42 [(4, .int x4)] [] S) (x1 : Int32) (x2 : Int32) (x3 : Int32) (x4 : Int32) (x5 : Int32) (S : jS) (hE : f_X11_firstShared_6  g k42 x1 x2 x3 x4 x5 S = some z) : jJ X (jMain D ad cy) 6 [(1, .int x1), (2, .int x2), (3, .int x3), (4, .int x4), (5, .int x5)] [] S := by
  unfold f_X11_firstShared_6 at hE
  refine j_iload C dX11_firstShared_6 4 rfl ?_
  refine j_ldc (v := 99999) C dX11_firstShared_8 tw_721 ?_
  refine j_icmp_gt (tgt := 42) C dX11_firstShared_10 rfl hE (fun hE => ?_) (fun hE => ?_)
  · refine j_sub [3] rfl ?_
    exact hk42 x4 S hE
  · refine j_iload C dX11_firstShared_13 3 rfl ?_
    refine j_ldc (v := 99999) C dX11_firstShared_15 tw_721 ?_
    refine j_icmp_gt (tgt := 42) C dX11_firstShared_17 rfl hE (fun hE => ?_) (fun hE => ?_)
    · refine j_sub [3] rfl ?_
      exact hk42 x4 S hE
    · refine j_iload C dX11_firstShared_20 3 rfl ?_
      refine j_iload_n C dX11_firstShared_22 1 rfl ?_
      refine j_iload_n C dX11_firstShared_23 2 rfl ?_
      refine k_X11_302_X11_isThere C dX11_firstShared_24 hE (Nat.le_of_ble_eq_true rfl) (Nat.le_of_ble_eq_true rfl) (Nat.le_of_ble_eq_true rfl) (fun v2 S1 hE => ?_)
      refine j_if_ne (tgt := 42) C dX11_firstShared_27 rfl hE (fun hE => ?_) (fun hE => ?_)
      · refine j_sub [3] rfl ?_
        exact hk42 x4 S1 hE
      · refine j_iload C dX11_firstShared_30 3 rfl ?_
        refine j_iload_n C dX11_firstShared_32 0 rfl ?_
        refine j_iadd C dX11_firstShared_33 ?_
        refine j_istore (lv' := [(4, .int (x4 + x1)), (1, .int x1), (2, .int x2), (3, .int x3), (5, .int x5)]) C dX11_firstShared_34 (by decide) rfl ?_
        refine j_iinc (v := (x5 + 1)) (lv' := [(5, .int (x5 + 1)), (4, .int (x4 + x1)), (1, .int x1), (2, .int x2), (3, .int x3)]) C dX11_firstShared_36 4 rfl (congrArg (fun w => x5 + w) jc_ic_1) (by decide) rfl ?_
        refine j_goto (tgt := 6) C dX11_firstShared_39 rfl ?_
        refine j_sub [2, 3, 4, 1, 0] rfl ?_
        exact hg x1 x2 x3 (x4 + x1) (x5 + 1) S1 hE
theorem q_X11_firstShared_6 {X : jX} {D : va_G} {ad : Nat → Nat} {cy : Nat → ClassId} (C : jC X (jMain D ad cy) RX11 cX11_firstShared (some .int) 6 1 22) {z : Int32 × jS} (Q : jRet X (jMain D ad cy) (some (.int z.1), z.2)) {k42 : Int32 → jS → Option (Int32 × jS)} (hk42 : ∀ (x4 : Int32) (S : jS), k42 x4 S = some z → jJ X (jMain D ad cy) 42 [(4, .int x4)] [] S) (x1 : Int32) (x2 : Int32) (x3 : Int32) (x4 : Int32) (x5 : Int32) (S : jS) (hE : lp_X11_firstShared_6  k42 x1 x2 x3 x4 x5 S = some z) : jJ X (jMain D ad cy) 6 [(1, .int x1), (2, .int x2), (3, .int x3), (4, .int x4), (5, .int x5)] [] S :=
  jloop_P (α := Int32 × Int32 × Int32 × Int32 × Int32 × jS) (B := (fun g q => f_X11_firstShared_6  (fun x1 x2 x3 x4 x5 S => g (x1, x2, x3, x4, x5, S)) k42 q.1 q.2.1 q.2.2.1 q.2.2.2.1 q.2.2.2.2.1 q.2.2.2.2.2)) (P := fun q => jJ X (jMain D ad cy) 6 [(1, .int q.1), (2, .int q.2.1), (3, .int q.2.2.1), (4, .int q.2.2.2.1), (5, .int q.2.2.2.2.1)] [] q.2.2.2.2.2) (fun g q hg h => p_X11_firstShared_6 C Q (g := fun x1 x2 x3 x4 x5 S => g (x1, x2, x3, x4, x5, S)) (fun x1 x2 x3 x4 x5 S h => hg (x1, x2, x3, x4, x5, S) h) hk42 q.1 q.2.1 q.2.2.1 q.2.2.2.1 q.2.2.2.2.1 q.2.2.2.2.2 h) jN (x1, x2, x3, x4, x5, S) hE
set_option maxRecDepth 100000 in
theorem p_X11_firstShared_42 {X : jX} {D : va_G} {ad : Nat → Nat} {cy : Nat → ClassId} (C : jC X (jMain D ad cy) RX11 cX11_firstShared (some .int) 6 1 22) {z : Int32 × jS} (Q : jRet X (jMain D ad cy) (some (.int z.1), z.2))  (x4 : Int32) (S : jS) (hE : f_X11_firstShared_42   x4 S = some z) : jJ X (jMain D ad cy) 42 [(4, .int x4)] [] S := by
  unfold f_X11_firstShared_42 at hE
  refine j_iload C dX11_firstShared_42 0 rfl ?_
  exact j_iret C Q dX11_firstShared_44 hE
set_option maxRecDepth 100000 in
theorem p_X11_firstShared_e {X : jX} {D : va_G} {ad : Nat → Nat} {cy : Nat → ClassId} (C : jC X (jMain D ad cy) RX11 cX11_firstShared (some .int) 6 1 22) {z : Int32 × jS} (Q : jRet X (jMain D ad cy) (some (.int z.1), z.2))  (x0 : Int32) (x1 : Int32) (x2 : Int32) (x3 : Int32) (S : jS) (hE : f_X11_firstShared_e   x0 x1 x2 x3 S = some z) : jJ X (jMain D ad cy) 0 [(0, .int x0), (1, .int x1), (2, .int x2), (3, .int x3)] [] S := by
  unfold f_X11_firstShared_e at hE
  refine j_iload_n C dX11_firstShared_0 0 rfl ?_
  refine j_istore (lv' := [(4, .int x0), (0, .int x0), (1, .int x1), (2, .int x2), (3, .int x3)]) C dX11_firstShared_1 (by decide) rfl ?_
  refine j_iconst (v := 0) C dX11_firstShared_3 jc_ic_0 ?_
  refine j_istore (lv' := [(5, .int 0), (4, .int x0), (0, .int x0), (1, .int x1), (2, .int x2), (3, .int x3)]) C dX11_firstShared_4 (by decide) rfl ?_
  refine j_sub [3, 4, 5, 1, 0] rfl ?_
  exact q_X11_firstShared_6 C Q (p_X11_firstShared_42 C Q ) x1 x2 x3 x0 0 S hE
theorem c_X11_firstShared {l : Launch} {D : va_G} {ad : Nat → Nat} {cy : Nat → ClassId} (hO : jOk (jMain D ad cy)) (x0 : Int32) (x1 : Int32) (x2 : Int32) (x3 : Int32) (S : jS) {z : Int32 × jS} (hz : f_X11_firstShared x0 x1 x2 x3 S = some z) : Met l yX11_firstShared (.code yX11_firstShared cX11_firstShared 6 (some .int) :: jT) { frames := 1, cells := 0, slots := 0, locals := 22 } (va_Pc [.int x0, .int x1, .int x2, .int x3] (jInv (jMain D ad cy) S)) (jQ (jMain D ad cy) (some (.int z.1), z.2)) 0 0 (yA (jMain D ad cy)) :=
  jMet hO (by decide +kernel) rfl (Nat.le_of_ble_eq_true rfl) (fun X _ C Q => p_X11_firstShared_e C Q x0 x1 x2 x3 S hz)
theorem k_X11_203_X11_firstShared {X : jX} {D : va_G} {ad : Nat → Nat} {cy : Nat → ClassId} {cc : ByteArray} {ret : Option FieldType} {nL fr lo pc : Nat} {lv : List (Nat × Value)} {st : List Value} {S : jS} {β : Type} {z : β} (C : jC X (jMain D ad cy) RX11 cc ret nL fr lo) {a0 : Int32} {a1 : Int32} {a2 : Int32} {a3 : Int32} {E : Int32 → jS → Option β} (d : decode cc pc = .ok (.invokestatic 203, 3)) (hE : jcl (f_X11_firstShared a0 a1 a2 a3 S) E = some z) (hfr : 2 ≤ fr) (hlo : 47 ≤ lo) (hst : (st.map fun v => v.category).sum ≤ 8) (K : ∀ (v : Int32) (S1 : jS), E v S1 = some z → jJ X (jMain D ad cy) (pc + 3) lv (.int v :: st) S1) : jJ X (jMain D ad cy) pc lv (.int a3 :: .int a2 :: .int a1 :: .int a0 :: st) S := by
  obtain ⟨v, h1, h2⟩ := jcl_some hE
  exact j_callS (n := 4) (As := [.int a0, .int a1, .int a2, .int a3]) C (c_X11_firstShared C.2.2.2.2.2.2.1 a0 a1 a2 a3 S h1) tw_718 tw_719 tw_69 tw_720 (by decide +kernel) rfl hfr hlo hst rfl d (K _ _ h2)
set_option maxRecDepth 100000 in
theorem p_X11_commonDivisor_9 {X : jX} {D : va_G} {ad : Nat → Nat} {cy : Nat → ClassId} (C : jC X (jMain D ad cy) RX11 cX11_commonDivisor (some .long) 11 0 0) {z : Int64 × jS} (Q : jRet X (jMain D ad cy) (some (.long z.1), z.2)) {g : Int64 → Int64 → Int32 → jS → Option (Int64 × jS)} (hg : ∀ (x4 : Int64) (x6 : Int64) (x8 : Int32) (S : jS), g x4 x6 x8 S = some z → jJ X (jMain D ad cy) 9 [(4, .long x4), (6, .long x6), (8, .int x8)] [] S) {k44 : Int64 → jS → Option (Int64 × jS)} (hk44 : ∀ (x4 : Int64) (S : jS), k44 x4 S = some z → jJ X (jMain D ad cy) 44 [(4, .long x4)] [] S) (x4 : Int64) (x6 : Int64) (x8 : Int32) (S : jS) (hE : f_X11_commonDivisor_9  g k44 x4 x6 x8 S = some z) : jJ X (jMain D ad cy) 9 [(4, .long x4), (6, .long x6), (8, .int x8)] [] S := by
  unfold f_X11_commonDivisor_9 at hE
  refine j_iload C dX11_commonDivisor_9 2 rfl ?_
  refine j_bipush (v := 100) C dX11_commonDivisor_11 jc_bp_100 ?_
  refine j_icmp_ge (tgt := 44) C dX11_commonDivisor_13 rfl hE (fun hE => ?_) (fun hE => ?_)
  · refine j_sub [0] rfl ?_
    exact hk44 x4 S hE
  · refine j_lload C dX11_commonDivisor_16 1 rfl ?_
    refine j_lconst (v := 0) C dX11_commonDivisor_18 jc_lc_0 ?_
    refine j_lcmp C dX11_commonDivisor_19 ?_
    refine j_if_eq (tgt := 44) C dX11_commonDivisor_20 rfl hE (fun hE => ?_) (fun hE => ?_)
    · refine j_sub [0] rfl ?_
      exact hk44 x4 S hE
    · refine j_lload C dX11_commonDivisor_23 0 rfl ?_
      refine j_lload C dX11_commonDivisor_25 1 rfl ?_
      refine j_lrem C dX11_commonDivisor_27 hE (fun v1 hE => ?_)
      refine j_lstore (lv' := [(9, .long v1), (4, .long x4), (6, .long x6), (8, .int x8)]) C dX11_commonDivisor_28 (by decide) rfl ?_
      refine j_lload C dX11_commonDivisor_30 2 rfl ?_
      refine j_lstore (lv' := [(4, .long x6), (9, .long v1), (6, .long x6), (8, .int x8)]) C dX11_commonDivisor_32 (by decide) rfl ?_
      refine j_lload C dX11_commonDivisor_34 1 rfl ?_
      refine j_lstore (lv' := [(6, .long v1), (4, .long x6), (9, .long v1), (8, .int x8)]) C dX11_commonDivisor_36 (by decide) rfl ?_
      refine j_iinc (v := (x8 + 1)) (lv' := [(8, .int (x8 + 1)), (6, .long v1), (4, .long x6), (9, .long v1)]) C dX11_commonDivisor_38 3 rfl (congrArg (fun w => x8 + w) jc_ic_1) (by decide) rfl ?_
      refine j_goto (tgt := 9) C dX11_commonDivisor_41 rfl ?_
      refine j_sub [2, 1, 0] rfl ?_
      exact hg x6 v1 (x8 + 1) S hE
theorem q_X11_commonDivisor_9 {X : jX} {D : va_G} {ad : Nat → Nat} {cy : Nat → ClassId} (C : jC X (jMain D ad cy) RX11 cX11_commonDivisor (some .long) 11 0 0) {z : Int64 × jS} (Q : jRet X (jMain D ad cy) (some (.long z.1), z.2)) {k44 : Int64 → jS → Option (Int64 × jS)} (hk44 : ∀ (x4 : Int64) (S : jS), k44 x4 S = some z → jJ X (jMain D ad cy) 44 [(4, .long x4)] [] S) (x4 : Int64) (x6 : Int64) (x8 : Int32) (S : jS) (hE : lp_X11_commonDivisor_9  k44 x4 x6 x8 S = some z) : jJ X (jMain D ad cy) 9 [(4, .long x4), (6, .long x6), (8, .int x8)] [] S :=
  jloop_P (α := Int64 × Int64 × Int32 × jS) (B := (fun g q => f_X11_commonDivisor_9  (fun x4 x6 x8 S => g (x4, x6, x8, S)) k44 q.1 q.2.1 q.2.2.1 q.2.2.2)) (P := fun q => jJ X (jMain D ad cy) 9 [(4, .long q.1), (6, .long q.2.1), (8, .int q.2.2.1)] [] q.2.2.2) (fun g q hg h => p_X11_commonDivisor_9 C Q (g := fun x4 x6 x8 S => g (x4, x6, x8, S)) (fun x4 x6 x8 S h => hg (x4, x6, x8, S) h) hk44 q.1 q.2.1 q.2.2.1 q.2.2.2 h) jN (x4, x6, x8, S) hE
set_option maxRecDepth 100000 in
theorem p_X11_commonDivisor_44 {X : jX} {D : va_G} {ad : Nat → Nat} {cy : Nat → ClassId} (C : jC X (jMain D ad cy) RX11 cX11_commonDivisor (some .long) 11 0 0) {z : Int64 × jS} (Q : jRet X (jMain D ad cy) (some (.long z.1), z.2))  (x4 : Int64) (S : jS) (hE : f_X11_commonDivisor_44   x4 S = some z) : jJ X (jMain D ad cy) 44 [(4, .long x4)] [] S := by
  unfold f_X11_commonDivisor_44 at hE
  refine j_lload C dX11_commonDivisor_44 0 rfl ?_
  exact j_lret C Q dX11_commonDivisor_46 hE
set_option maxRecDepth 100000 in
theorem p_X11_commonDivisor_e {X : jX} {D : va_G} {ad : Nat → Nat} {cy : Nat → ClassId} (C : jC X (jMain D ad cy) RX11 cX11_commonDivisor (some .long) 11 0 0) {z : Int64 × jS} (Q : jRet X (jMain D ad cy) (some (.long z.1), z.2))  (x0 : Int64) (x2 : Int64) (S : jS) (hE : f_X11_commonDivisor_e   x0 x2 S = some z) : jJ X (jMain D ad cy) 0 [(0, .long x0), (2, .long x2)] [] S := by
  unfold f_X11_commonDivisor_e at hE
  refine j_lload_n C dX11_commonDivisor_0 0 rfl ?_
  refine j_lstore (lv' := [(4, .long x0), (0, .long x0), (2, .long x2)]) C dX11_commonDivisor_1 (by decide) rfl ?_
  refine j_lload_n C dX11_commonDivisor_3 2 rfl ?_
  refine j_lstore (lv' := [(6, .long x2), (4, .long x0), (0, .long x0), (2, .long x2)]) C dX11_commonDivisor_4 (by decide) rfl ?_
  refine j_iconst (v := 0) C dX11_commonDivisor_6 jc_ic_0 ?_
  refine j_istore (lv' := [(8, .int 0), (6, .long x2), (4, .long x0), (0, .long x0), (2, .long x2)]) C dX11_commonDivisor_7 (by decide) rfl ?_
  refine j_sub [2, 1, 0] rfl ?_
  exact q_X11_commonDivisor_9 C Q (p_X11_commonDivisor_44 C Q ) x0 x2 0 S hE
theorem c_X11_commonDivisor {l : Launch} {D : va_G} {ad : Nat → Nat} {cy : Nat → ClassId} (hO : jOk (jMain D ad cy)) (x0 : Int64) (x2 : Int64) (S : jS) {z : Int64 × jS} (hz : f_X11_commonDivisor x0 x2 S = some z) : Met l yX11_commonDivisor (.code yX11_commonDivisor cX11_commonDivisor 11 (some .long) :: jT) { frames := 0, cells := 0, slots := 0, locals := 0 } (va_Pc [.long x0, .long x2] (jInv (jMain D ad cy) S)) (jQ (jMain D ad cy) (some (.long z.1), z.2)) 0 0 (yA (jMain D ad cy)) :=
  jMet hO (by decide +kernel) rfl (Nat.le_of_ble_eq_true rfl) (fun X _ C Q => p_X11_commonDivisor_e C Q x0 x2 S hz)
theorem k_X11_253_X11_commonDivisor {X : jX} {D : va_G} {ad : Nat → Nat} {cy : Nat → ClassId} {cc : ByteArray} {ret : Option FieldType} {nL fr lo pc : Nat} {lv : List (Nat × Value)} {st : List Value} {S : jS} {β : Type} {z : β} (C : jC X (jMain D ad cy) RX11 cc ret nL fr lo) {a0 : Int64} {a1 : Int64} {E : Int64 → jS → Option β} (d : decode cc pc = .ok (.invokestatic 253, 3)) (hE : jcl (f_X11_commonDivisor a0 a1 S) E = some z) (hfr : 1 ≤ fr) (hlo : 30 ≤ lo) (hst : (st.map fun v => v.category).sum ≤ 8) (K : ∀ (v : Int64) (S1 : jS), E v S1 = some z → jJ X (jMain D ad cy) (pc + 3) lv (.long v :: st) S1) : jJ X (jMain D ad cy) pc lv (.long a1 :: .long a0 :: st) S := by
  obtain ⟨v, h1, h2⟩ := jcl_some hE
  exact j_callS (n := 2) (As := [.long a0, .long a1]) C (c_X11_commonDivisor C.2.2.2.2.2.2.1 a0 a1 S h1) tw_728 tw_729 tw_69 tw_730 (by decide +kernel) rfl hfr hlo hst rfl d (K _ _ h2)
set_option maxRecDepth 100000 in
theorem p_X11_sharedStep_e {X : jX} {D : va_G} {ad : Nat → Nat} {cy : Nat → ClassId} (C : jC X (jMain D ad cy) RX11 cX11_sharedStep (some .int) 4 1 30) {z : Int32 × jS} (Q : jRet X (jMain D ad cy) (some (.int z.1), z.2))  (x0 : Int32) (x1 : Int32) (S : jS) (hE : f_X11_sharedStep_e   x0 x1 S = some z) : jJ X (jMain D ad cy) 0 [(0, .int x0), (1, .int x1)] [] S := by
  unfold f_X11_sharedStep_e at hE
  refine j_iload_n C dX11_sharedStep_0 0 rfl ?_
  refine j_i2l C dX11_sharedStep_1 ?_
  refine j_iload_n C dX11_sharedStep_2 1 rfl ?_
  refine j_i2l C dX11_sharedStep_3 ?_
  refine k_X11_253_X11_commonDivisor C dX11_sharedStep_4 hE (Nat.le_of_ble_eq_true rfl) (Nat.le_of_ble_eq_true rfl) (Nat.le_of_ble_eq_true rfl) (fun v2 S1 hE => ?_)
  refine j_lstore_n (i := 2) (lv' := [(2, .long v2), (0, .int x0), (1, .int x1)]) C dX11_sharedStep_7 rfl (by decide) rfl ?_
  refine j_lload_n C dX11_sharedStep_8 0 rfl ?_
  refine j_lconst (v := 1) C dX11_sharedStep_9 jc_lc_1 ?_
  refine j_lcmp C dX11_sharedStep_10 ?_
  refine j_if_ge (tgt := 16) C dX11_sharedStep_11 rfl hE (fun hE => ?_) (fun hE => ?_)
  · refine j_iload_n C dX11_sharedStep_16 1 rfl ?_
    refine j_i2l C dX11_sharedStep_17 ?_
    refine j_lload_n C dX11_sharedStep_18 0 rfl ?_
    refine j_ldiv C dX11_sharedStep_19 hE (fun v3 hE => ?_)
    refine j_iload_n C dX11_sharedStep_20 2 rfl ?_
    refine j_i2l C dX11_sharedStep_21 ?_
    refine j_lmul C dX11_sharedStep_22 ?_
    refine j_ldc2 (v := 100000) C dX11_sharedStep_23 tw_731 ?_
    refine j_mminl C tm_732 tm_733 tm_87 tm_734 dX11_sharedStep_26 (Nat.le_of_ble_eq_true rfl) (Nat.le_of_ble_eq_true rfl) ?_
    refine j_l2i C dX11_sharedStep_29 ?_
    exact j_iret C Q dX11_sharedStep_30 hE
  · refine j_iload_n C dX11_sharedStep_14 1 rfl ?_
    exact j_iret C Q dX11_sharedStep_15 hE
theorem c_X11_sharedStep {l : Launch} {D : va_G} {ad : Nat → Nat} {cy : Nat → ClassId} (hO : jOk (jMain D ad cy)) (x0 : Int32) (x1 : Int32) (S : jS) {z : Int32 × jS} (hz : f_X11_sharedStep x0 x1 S = some z) : Met l yX11_sharedStep (.code yX11_sharedStep cX11_sharedStep 4 (some .int) :: jT) { frames := 1, cells := 0, slots := 0, locals := 30 } (va_Pc [.int x0, .int x1] (jInv (jMain D ad cy) S)) (jQ (jMain D ad cy) (some (.int z.1), z.2)) 0 0 (yA (jMain D ad cy)) :=
  jMet hO (by decide +kernel) rfl (Nat.le_of_ble_eq_true rfl) (fun X _ C Q => p_X11_sharedStep_e C Q x0 x1 S hz)
theorem k_X11_207_X11_sharedStep {X : jX} {D : va_G} {ad : Nat → Nat} {cy : Nat → ClassId} {cc : ByteArray} {ret : Option FieldType} {nL fr lo pc : Nat} {lv : List (Nat × Value)} {st : List Value} {S : jS} {β : Type} {z : β} (C : jC X (jMain D ad cy) RX11 cc ret nL fr lo) {a0 : Int32} {a1 : Int32} {E : Int32 → jS → Option β} (d : decode cc pc = .ok (.invokestatic 207, 3)) (hE : jcl (f_X11_sharedStep a0 a1 S) E = some z) (hfr : 2 ≤ fr) (hlo : 53 ≤ lo) (hst : (st.map fun v => v.category).sum ≤ 8) (K : ∀ (v : Int32) (S1 : jS), E v S1 = some z → jJ X (jMain D ad cy) (pc + 3) lv (.int v :: st) S1) : jJ X (jMain D ad cy) pc lv (.int a1 :: .int a0 :: st) S := by
  obtain ⟨v, h1, h2⟩ := jcl_some hE
  exact j_callS (n := 2) (As := [.int a0, .int a1]) C (c_X11_sharedStep C.2.2.2.2.2.2.1 a0 a1 S h1) tw_725 tw_726 tw_69 tw_727 (by decide +kernel) rfl hfr hlo hst rfl d (K _ _ h2)
set_option maxRecDepth 100000 in
theorem p_X11_meet_44 {X : jX} {D : va_G} {ad : Nat → Nat} {cy : Nat → ClassId} (C : jC X (jMain D ad cy) RX11 cX11_meet (some .int) 5 2 53) {z : Int32 × jS} (Q : jRet X (jMain D ad cy) (some (.int z.1), z.2)) {g : Int32 → Int32 → Int32 → jS → Option (Int32 × jS)} (hg : ∀ (x1 : Int32) (x2 : Int32) (x3 : Int32) (S : jS), g x1 x2 x3 S = some z → jJ X (jMain D ad cy) 6 [(0, .ref (ad 0)), (1, .int x1), (2, .int x2), (3, .int x3)] [] S) {k50 : Int32 → jS → Option (Int32 × jS)} (hk50 : ∀ (x1 : Int32) (S : jS), k50 x1 S = some z → jJ X (jMain D ad cy) 50 [(1, .int x1)] [] S) (x1 : Int32) (x2 : Int32) (x3 : Int32) (S : jS) (hE : f_X11_meet_44  g k50 x1 x2 x3 S = some z) : jJ X (jMain D ad cy) 44 [(0, .ref (ad 0)), (1, .int x1), (2, .int x2), (3, .int x3)] [] S := by
  unfold f_X11_meet_44 at hE
  refine j_iinc (v := (x3 + 1)) (lv' := [(3, .int (x3 + 1)), (0, .ref (ad 0)), (1, .int x1), (2, .int x2)]) C dX11_meet_44 3 rfl (congrArg (fun w => x3 + w) jc_ic_1) (by decide) rfl ?_
  refine j_goto (tgt := 6) C dX11_meet_47 rfl ?_
  refine j_sub [1, 2, 3, 0] rfl ?_
  exact hg x1 x2 (x3 + 1) S hE
set_option maxRecDepth 100000 in
theorem p_X11_meet_6 {X : jX} {D : va_G} {ad : Nat → Nat} {cy : Nat → ClassId} (C : jC X (jMain D ad cy) RX11 cX11_meet (some .int) 5 2 53) {z : Int32 × jS} (Q : jRet X (jMain D ad cy) (some (.int z.1), z.2)) {g : Int32 → Int32 → Int32 → jS → Option (Int32 × jS)} (hg : ∀ (x1 : Int32) (x2 : Int32) (x3 : Int32) (S : jS), g x1 x2 x3 S = some z → jJ X (jMain D ad cy) 6 [(0, .ref (ad 0)), (1, .int x1), (2, .int x2), (3, .int x3)] [] S) {k50 : Int32 → jS → Option (Int32 × jS)} (hk50 : ∀ (x1 : Int32) (S : jS), k50 x1 S = some z → jJ X (jMain D ad cy) 50 [(1, .int x1)] [] S) (x1 : Int32) (x2 : Int32) (x3 : Int32) (S : jS) (hE : f_X11_meet_6  g k50 x1 x2 x3 S = some z) : jJ X (jMain D ad cy) 6 [(0, .ref (ad 0)), (1, .int x1), (2, .int x2), (3, .int x3)] [] S := by
  unfold f_X11_meet_6 at hE
  refine j_iload_n C dX11_meet_6 3 rfl ?_
  refine j_bipush (v := 8) C dX11_meet_7 jc_bp_8 ?_
  refine j_icmp_ge (tgt := 50) C dX11_meet_9 rfl hE (fun hE => ?_) (fun hE => ?_)
  · refine j_sub [1] rfl ?_
    exact hk50 x1 S hE
  · refine j_aload_n C dX11_meet_12 0 rfl ?_
    refine g_X11_44_0 C dX11_meet_13 ?_
    refine g_X11_96_21 C dX11_meet_16 ?_
    refine j_iload_n C dX11_meet_19 3 rfl ?_
    refine l_22 C dX11_meet_20 hE (fun v1 hE => ?_)
    refine j_istore (lv' := [(4, .int v1), (0, .ref (ad 0)), (1, .int x1), (2, .int x2), (3, .int x3)]) C dX11_meet_21 (by decide) rfl ?_
    refine j_iload C dX11_meet_23 0 rfl ?_
    refine j_if_le (tgt := 44) C dX11_meet_25 rfl hE (fun hE => ?_) (fun hE => ?_)
    · refine j_sub [1, 2, 3, 4] rfl ?_
      exact p_X11_meet_44 C Q hg hk50 x1 x2 x3 S hE
    · refine j_iload_n C dX11_meet_28 2 rfl ?_
      refine j_iload_n C dX11_meet_29 3 rfl ?_
      refine j_iload_n C dX11_meet_30 4 rfl ?_
      refine j_iload C dX11_meet_31 0 rfl ?_
      refine k_X11_203_X11_firstShared C dX11_meet_33 hE (Nat.le_of_ble_eq_true rfl) (Nat.le_of_ble_eq_true rfl) (Nat.le_of_ble_eq_true rfl) (fun v3 S2 hE => ?_)
      refine j_istore_n (i := 1) (lv' := [(1, .int v3), (4, .int v1), (0, .ref (ad 0)), (2, .int x2), (3, .int x3)]) C dX11_meet_36 rfl (by decide) rfl ?_
      refine j_iload_n C dX11_meet_37 3 rfl ?_
      refine j_iload C dX11_meet_38 1 rfl ?_
      refine k_X11_207_X11_sharedStep C dX11_meet_40 hE (Nat.le_of_ble_eq_true rfl) (Nat.le_of_ble_eq_true rfl) (Nat.le_of_ble_eq_true rfl) (fun v5 S4 hE => ?_)
      refine j_istore_n (i := 2) (lv' := [(2, .int v5), (1, .int v3), (4, .int v1), (0, .ref (ad 0)), (3, .int x3)]) C dX11_meet_43 rfl (by decide) rfl ?_
      refine j_sub [3, 1, 0, 4] rfl ?_
      exact p_X11_meet_44 C Q hg hk50 v3 v5 x3 S4 hE
theorem q_X11_meet_6 {X : jX} {D : va_G} {ad : Nat → Nat} {cy : Nat → ClassId} (C : jC X (jMain D ad cy) RX11 cX11_meet (some .int) 5 2 53) {z : Int32 × jS} (Q : jRet X (jMain D ad cy) (some (.int z.1), z.2)) {k50 : Int32 → jS → Option (Int32 × jS)} (hk50 : ∀ (x1 : Int32) (S : jS), k50 x1 S = some z → jJ X (jMain D ad cy) 50 [(1, .int x1)] [] S) (x1 : Int32) (x2 : Int32) (x3 : Int32) (S : jS) (hE : lp_X11_meet_6  k50 x1 x2 x3 S = some z) : jJ X (jMain D ad cy) 6 [(0, .ref (ad 0)), (1, .int x1), (2, .int x2), (3, .int x3)] [] S :=
  jloop_P (α := Int32 × Int32 × Int32 × jS) (B := (fun g q => f_X11_meet_6  (fun x1 x2 x3 S => g (x1, x2, x3, S)) k50 q.1 q.2.1 q.2.2.1 q.2.2.2)) (P := fun q => jJ X (jMain D ad cy) 6 [(0, .ref (ad 0)), (1, .int q.1), (2, .int q.2.1), (3, .int q.2.2.1)] [] q.2.2.2) (fun g q hg h => p_X11_meet_6 C Q (g := fun x1 x2 x3 S => g (x1, x2, x3, S)) (fun x1 x2 x3 S h => hg (x1, x2, x3, S) h) hk50 q.1 q.2.1 q.2.2.1 q.2.2.2 h) jN (x1, x2, x3, S) hE
set_option maxRecDepth 100000 in
theorem p_X11_meet_61 {X : jX} {D : va_G} {ad : Nat → Nat} {cy : Nat → ClassId} (C : jC X (jMain D ad cy) RX11 cX11_meet (some .int) 5 2 53) {z : Int32 × jS} (Q : jRet X (jMain D ad cy) (some (.int z.1), z.2))  (a0 : Int32) (S : jS) (hE : f_X11_meet_61   a0 S = some z) : jJ X (jMain D ad cy) 61 [] [.int a0] S := by
  unfold f_X11_meet_61 at hE
  exact j_iret C Q dX11_meet_61 hE
set_option maxRecDepth 100000 in
theorem p_X11_meet_50 {X : jX} {D : va_G} {ad : Nat → Nat} {cy : Nat → ClassId} (C : jC X (jMain D ad cy) RX11 cX11_meet (some .int) 5 2 53) {z : Int32 × jS} (Q : jRet X (jMain D ad cy) (some (.int z.1), z.2))  (x1 : Int32) (S : jS) (hE : f_X11_meet_50   x1 S = some z) : jJ X (jMain D ad cy) 50 [(1, .int x1)] [] S := by
  unfold f_X11_meet_50 at hE
  refine j_iload_n C dX11_meet_50 0 rfl ?_
  refine j_ldc (v := 99999) C dX11_meet_51 tw_721 ?_
  refine j_icmp_le (tgt := 60) C dX11_meet_53 rfl hE (fun hE => ?_) (fun hE => ?_)
  · refine j_iload_n C dX11_meet_60 0 rfl ?_
    refine j_sub [] rfl ?_
    exact p_X11_meet_61 C Q  x1 S hE
  · refine j_iconst (v := (-1)) C dX11_meet_56 jc_ic_m1 ?_
    refine j_goto (tgt := 61) C dX11_meet_57 rfl ?_
    refine j_sub [] rfl ?_
    exact p_X11_meet_61 C Q  (-1) S hE
set_option maxRecDepth 100000 in
theorem p_X11_meet_e {X : jX} {D : va_G} {ad : Nat → Nat} {cy : Nat → ClassId} (C : jC X (jMain D ad cy) RX11 cX11_meet (some .int) 5 2 53) {z : Int32 × jS} (Q : jRet X (jMain D ad cy) (some (.int z.1), z.2))   (S : jS) (hE : f_X11_meet_e    S = some z) : jJ X (jMain D ad cy) 0 [(0, .ref (ad 0))] [] S := by
  unfold f_X11_meet_e at hE
  refine j_iconst (v := 0) C dX11_meet_0 jc_ic_0 ?_
  refine j_istore_n (i := 1) (lv' := [(1, .int 0), (0, .ref (ad 0))]) C dX11_meet_1 rfl (by decide) rfl ?_
  refine j_iconst (v := 1) C dX11_meet_2 jc_ic_1 ?_
  refine j_istore_n (i := 2) (lv' := [(2, .int 1), (1, .int 0), (0, .ref (ad 0))]) C dX11_meet_3 rfl (by decide) rfl ?_
  refine j_iconst (v := 0) C dX11_meet_4 jc_ic_0 ?_
  refine j_istore_n (i := 3) (lv' := [(3, .int 0), (2, .int 1), (1, .int 0), (0, .ref (ad 0))]) C dX11_meet_5 rfl (by decide) rfl ?_
  refine j_sub [3, 2, 1, 0] rfl ?_
  exact q_X11_meet_6 C Q (p_X11_meet_50 C Q ) 0 1 0 S hE
theorem c_X11_meet {l : Launch} {D : va_G} {ad : Nat → Nat} {cy : Nat → ClassId} (hO : jOk (jMain D ad cy))  (S : jS) {z : Int32 × jS} (hz : f_X11_meet  S = some z) : Met l yX11_meet (.code yX11_meet cX11_meet 5 (some .int) :: jT) { frames := 2, cells := 0, slots := 0, locals := 53 } (va_Pc [.ref (ad 0)] (jInv (jMain D ad cy) S)) (jQ (jMain D ad cy) (some (.int z.1), z.2)) 0 0 (yA (jMain D ad cy)) :=
  jMet hO (by decide +kernel) rfl (Nat.le_of_ble_eq_true rfl) (fun X _ C Q => p_X11_meet_e C Q  S hz)
set_option maxRecDepth 100000 in
theorem p_X12_next_64 {X : jX} {D : va_G} {ad : Nat → Nat} {cy : Nat → ClassId} (C : jC X (jMain D ad cy) RX12 cX12_next (some .int) 5 1 25) {z : Int32 × jS} (Q : jRet X (jMain D ad cy) (some (.int z.1), z.2)) {g : Int32 → Int32 → Int32 → jS → Option (Int32 × jS)} (hg : ∀ (x1 : Int32) (x2 : Int32) (x3 : Int32) (S : jS), g x1 x2 x3 S = some z → jJ X (jMain D ad cy) 23 [(0, .ref (ad 41)), (1, .int x1), (2, .int x2), (3, .int x3)] [] S) {k70 : Int32 → jS → Option (Int32 × jS)} (hk70 : ∀ (x2 : Int32) (S : jS), k70 x2 S = some z → jJ X (jMain D ad cy) 70 [(2, .int x2)] [] S) (x1 : Int32) (x2 : Int32) (x3 : Int32) (S : jS) (hE : f_X12_next_64  g k70 x1 x2 x3 S = some z) : jJ X (jMain D ad cy) 64 [(0, .ref (ad 41)), (1, .int x1), (2, .int x2), (3, .int x3)] [] S := by
  unfold f_X12_next_64 at hE
  refine j_iinc (v := (x3 + 1)) (lv' := [(3, .int (x3 + 1)), (0, .ref (ad 41)), (1, .int x1), (2, .int x2)]) C dX12_next_64 3 rfl (congrArg (fun w => x3 + w) jc_ic_1) (by decide) rfl ?_
  refine j_goto (tgt := 23) C dX12_next_67 rfl ?_
  refine j_sub [1, 2, 3, 0] rfl ?_
  exact hg x1 x2 (x3 + 1) S hE
set_option maxRecDepth 100000 in
theorem p_X12_next_63 {X : jX} {D : va_G} {ad : Nat → Nat} {cy : Nat → ClassId} (C : jC X (jMain D ad cy) RX12 cX12_next (some .int) 5 1 25) {z : Int32 × jS} (Q : jRet X (jMain D ad cy) (some (.int z.1), z.2)) {g : Int32 → Int32 → Int32 → jS → Option (Int32 × jS)} (hg : ∀ (x1 : Int32) (x2 : Int32) (x3 : Int32) (S : jS), g x1 x2 x3 S = some z → jJ X (jMain D ad cy) 23 [(0, .ref (ad 41)), (1, .int x1), (2, .int x2), (3, .int x3)] [] S) {k70 : Int32 → jS → Option (Int32 × jS)} (hk70 : ∀ (x2 : Int32) (S : jS), k70 x2 S = some z → jJ X (jMain D ad cy) 70 [(2, .int x2)] [] S) (a0 : Int32) (x1 : Int32) (x3 : Int32) (S : jS) (hE : f_X12_next_63  g k70 a0 x1 x3 S = some z) : jJ X (jMain D ad cy) 63 [(0, .ref (ad 41)), (1, .int x1), (3, .int x3)] [.int a0] S := by
  unfold f_X12_next_63 at hE
  refine j_istore_n (i := 2) (lv' := [(2, .int a0), (0, .ref (ad 41)), (1, .int x1), (3, .int x3)]) C dX12_next_63 rfl (by decide) rfl ?_
  refine j_sub [1, 2, 0, 3] rfl ?_
  exact p_X12_next_64 C Q hg hk70 x1 a0 x3 S hE
set_option maxRecDepth 100000 in
theorem p_X12_next_57 {X : jX} {D : va_G} {ad : Nat → Nat} {cy : Nat → ClassId} (C : jC X (jMain D ad cy) RX12 cX12_next (some .int) 5 1 25) {z : Int32 × jS} (Q : jRet X (jMain D ad cy) (some (.int z.1), z.2)) {g : Int32 → Int32 → Int32 → jS → Option (Int32 × jS)} (hg : ∀ (x1 : Int32) (x2 : Int32) (x3 : Int32) (S : jS), g x1 x2 x3 S = some z → jJ X (jMain D ad cy) 23 [(0, .ref (ad 41)), (1, .int x1), (2, .int x2), (3, .int x3)] [] S) {k70 : Int32 → jS → Option (Int32 × jS)} (hk70 : ∀ (x2 : Int32) (S : jS), k70 x2 S = some z → jJ X (jMain D ad cy) 70 [(2, .int x2)] [] S) (x1 : Int32) (x3 : Int32) (x4 : Int32) (S : jS) (hE : f_X12_next_57  g k70 x1 x3 x4 S = some z) : jJ X (jMain D ad cy) 57 [(0, .ref (ad 41)), (1, .int x1), (3, .int x3), (4, .int x4)] [] S := by
  unfold f_X12_next_57 at hE
  refine j_iload C dX12_next_57 3 rfl ?_
  refine j_goto (tgt := 63) C dX12_next_59 rfl ?_
  refine j_sub [0, 1, 2] rfl ?_
  exact p_X12_next_63 C Q hg hk70 x4 x1 x3 S hE
set_option maxRecDepth 100000 in
theorem p_X12_next_23 {X : jX} {D : va_G} {ad : Nat → Nat} {cy : Nat → ClassId} (C : jC X (jMain D ad cy) RX12 cX12_next (some .int) 5 1 25) {z : Int32 × jS} (Q : jRet X (jMain D ad cy) (some (.int z.1), z.2)) {g : Int32 → Int32 → Int32 → jS → Option (Int32 × jS)} (hg : ∀ (x1 : Int32) (x2 : Int32) (x3 : Int32) (S : jS), g x1 x2 x3 S = some z → jJ X (jMain D ad cy) 23 [(0, .ref (ad 41)), (1, .int x1), (2, .int x2), (3, .int x3)] [] S) {k70 : Int32 → jS → Option (Int32 × jS)} (hk70 : ∀ (x2 : Int32) (S : jS), k70 x2 S = some z → jJ X (jMain D ad cy) 70 [(2, .int x2)] [] S) (x1 : Int32) (x2 : Int32) (x3 : Int32) (S : jS) (hE : f_X12_next_23  g k70 x1 x2 x3 S = some z) : jJ X (jMain D ad cy) 23 [(0, .ref (ad 41)), (1, .int x1), (2, .int x2), (3, .int x3)] [] S := by
  unfold f_X12_next_23 at hE
  refine j_iload_n C dX12_next_23 3 rfl ?_
  refine j_bipush (v := 8) C dX12_next_24 jc_bp_8 ?_
  refine j_icmp_ge (tgt := 70) C dX12_next_26 rfl hE (fun hE => ?_) (fun hE => ?_)
  · refine j_sub [2] rfl ?_
    exact hk70 x2 S hE
  · refine j_aload_n C dX12_next_29 0 rfl ?_
    refine g_X12_7_41 C dX12_next_30 ?_
    refine j_iload_n C dX12_next_33 3 rfl ?_
    refine l_42 C dX12_next_34 hE (fun v1 hE => ?_)
    refine j_if_le (tgt := 64) C dX12_next_35 rfl hE (fun hE => ?_) (fun hE => ?_)
    · exact p_X12_next_64 C Q hg hk70 x1 x2 x3 S hE
    · refine j_aload_n C dX12_next_38 0 rfl ?_
      refine j_iload_n C dX12_next_39 3 rfl ?_
      refine j_iload_n C dX12_next_40 1 rfl ?_
      refine k_X12_181_X12_daysTill C dX12_next_41 hE (Nat.le_of_ble_eq_true rfl) (Nat.le_of_ble_eq_true rfl) (Nat.le_of_ble_eq_true rfl) (fun v3 S2 hE => ?_)
      refine j_istore (lv' := [(4, .int v3), (0, .ref (ad 41)), (1, .int x1), (2, .int x2), (3, .int x3)]) C dX12_next_44 (by decide) rfl ?_
      refine j_iload_n C dX12_next_46 3 rfl ?_
      refine j_iconst (v := (-1)) C dX12_next_47 jc_ic_m1 ?_
      refine j_icmp_eq (tgt := 57) C dX12_next_48 rfl hE (fun hE => ?_) (fun hE => ?_)
      · refine j_sub [1, 2, 4, 0] rfl ?_
        exact p_X12_next_57 C Q hg hk70 x1 x3 v3 S2 hE
      · refine j_iload C dX12_next_51 0 rfl ?_
        refine j_iload_n C dX12_next_53 3 rfl ?_
        refine j_icmp_ge (tgt := 62) C dX12_next_54 rfl hE (fun hE => ?_) (fun hE => ?_)
        · refine j_iload_n C dX12_next_62 3 rfl ?_
          refine j_sub [1, 2, 4] rfl ?_
          exact p_X12_next_63 C Q hg hk70 x2 x1 x3 S2 hE
        · refine j_sub [1, 2, 4, 0] rfl ?_
          exact p_X12_next_57 C Q hg hk70 x1 x3 v3 S2 hE
theorem q_X12_next_23 {X : jX} {D : va_G} {ad : Nat → Nat} {cy : Nat → ClassId} (C : jC X (jMain D ad cy) RX12 cX12_next (some .int) 5 1 25) {z : Int32 × jS} (Q : jRet X (jMain D ad cy) (some (.int z.1), z.2)) {k70 : Int32 → jS → Option (Int32 × jS)} (hk70 : ∀ (x2 : Int32) (S : jS), k70 x2 S = some z → jJ X (jMain D ad cy) 70 [(2, .int x2)] [] S) (x1 : Int32) (x2 : Int32) (x3 : Int32) (S : jS) (hE : lp_X12_next_23  k70 x1 x2 x3 S = some z) : jJ X (jMain D ad cy) 23 [(0, .ref (ad 41)), (1, .int x1), (2, .int x2), (3, .int x3)] [] S :=
  jloop_P (α := Int32 × Int32 × Int32 × jS) (B := (fun g q => f_X12_next_23  (fun x1 x2 x3 S => g (x1, x2, x3, S)) k70 q.1 q.2.1 q.2.2.1 q.2.2.2)) (P := fun q => jJ X (jMain D ad cy) 23 [(0, .ref (ad 41)), (1, .int q.1), (2, .int q.2.1), (3, .int q.2.2.1)] [] q.2.2.2) (fun g q hg h => p_X12_next_23 C Q (g := fun x1 x2 x3 S => g (x1, x2, x3, S)) (fun x1 x2 x3 S h => hg (x1, x2, x3, S) h) hk70 q.1 q.2.1 q.2.2.1 q.2.2.2 h) jN (x1, x2, x3, S) hE
set_option maxRecDepth 100000 in
theorem p_X12_next_70 {X : jX} {D : va_G} {ad : Nat → Nat} {cy : Nat → ClassId} (C : jC X (jMain D ad cy) RX12 cX12_next (some .int) 5 1 25) {z : Int32 × jS} (Q : jRet X (jMain D ad cy) (some (.int z.1), z.2))  (x2 : Int32) (S : jS) (hE : f_X12_next_70   x2 S = some z) : jJ X (jMain D ad cy) 70 [(2, .int x2)] [] S := by
  unfold f_X12_next_70 at hE
  refine j_iload_n C dX12_next_70 0 rfl ?_
  exact j_iret C Q dX12_next_71 hE
set_option maxRecDepth 100000 in
theorem p_X12_next_e {X : jX} {D : va_G} {ad : Nat → Nat} {cy : Nat → ClassId} (C : jC X (jMain D ad cy) RX12 cX12_next (some .int) 5 1 25) {z : Int32 × jS} (Q : jRet X (jMain D ad cy) (some (.int z.1), z.2))  (x1 : Int32) (S : jS) (hE : f_X12_next_e   x1 S = some z) : jJ X (jMain D ad cy) 0 [(0, .ref (ad 41)), (1, .int x1)] [] S := by
  unfold f_X12_next_e at hE
  refine j_iload_n C dX12_next_0 1 rfl ?_
  refine j_i2l C dX12_next_1 ?_
  refine j_lconst (v := 0) C dX12_next_2 jc_lc_0 ?_
  refine j_ldc2 (v := 99999) C dX12_next_3 tw_1145 ?_
  refine k_X12_59_X12_in C dX12_next_6 hE (Nat.le_of_ble_eq_true rfl) (Nat.le_of_ble_eq_true rfl) (Nat.le_of_ble_eq_true rfl) (fun v2 S1 hE => ?_)
  refine j_if_ne (tgt := 19) C dX12_next_9 rfl hE (fun hE => ?_) (fun hE => ?_)
  · refine j_iconst (v := (-1)) C dX12_next_19 jc_ic_m1 ?_
    refine j_istore_n (i := 2) (lv' := [(2, .int (-1)), (0, .ref (ad 41)), (1, .int x1)]) C dX12_next_20 rfl (by decide) rfl ?_
    refine j_iconst (v := 0) C dX12_next_21 jc_ic_0 ?_
    refine j_istore_n (i := 3) (lv' := [(3, .int 0), (2, .int (-1)), (0, .ref (ad 41)), (1, .int x1)]) C dX12_next_22 rfl (by decide) rfl ?_
    refine j_sub [2, 3, 1, 0] rfl ?_
    exact q_X12_next_23 C Q (p_X12_next_70 C Q ) x1 (-1) 0 S1 hE
  · refine j_aload_n C dX12_next_12 0 rfl ?_
    refine j_bipush (v := (-2)) C dX12_next_13 jc_bp_m2 ?_
    refine k_X12_87_X12_bad C dX12_next_15 hE (Nat.le_of_ble_eq_true rfl) (Nat.le_of_ble_eq_true rfl) (Nat.le_of_ble_eq_true rfl) (fun v4 S3 hE => ?_)
    exact j_iret C Q dX12_next_18 hE
theorem c_X12_next {l : Launch} {D : va_G} {ad : Nat → Nat} {cy : Nat → ClassId} (hO : jOk (jMain D ad cy)) (x1 : Int32) (S : jS) {z : Int32 × jS} (hz : f_X12_next x1 S = some z) : Met l yX12_next (.code yX12_next cX12_next 5 (some .int) :: jT) { frames := 1, cells := 0, slots := 0, locals := 25 } (va_Pc [.ref (ad 41), .int x1] (jInv (jMain D ad cy) S)) (jQ (jMain D ad cy) (some (.int z.1), z.2)) 0 0 (yA (jMain D ad cy)) :=
  jMet hO (by decide +kernel) rfl (Nat.le_of_ble_eq_true rfl) (fun X _ C Q => p_X12_next_e C Q x1 S hz)
set_option maxRecDepth 100000 in
theorem p_X11_waitFrom_10 {X : jX} {D : va_G} {ad : Nat → Nat} {cy : Nat → ClassId} (C : jC X (jMain D ad cy) RX11 cX11_waitFrom (some .int) 4 0 0) {z : Int32 × jS} (Q : jRet X (jMain D ad cy) (some (.int z.1), z.2))  (x0 : Int32) (x1 : Int32) (S : jS) (hE : f_X11_waitFrom_10   x0 x1 S = some z) : jJ X (jMain D ad cy) 10 [(0, .int x0), (1, .int x1)] [] S := by
  unfold f_X11_waitFrom_10 at hE
  refine j_iload_n C dX11_waitFrom_10 1 rfl ?_
  refine j_iload_n C dX11_waitFrom_11 0 rfl ?_
  refine j_isub C dX11_waitFrom_12 ?_
  exact j_iret C Q dX11_waitFrom_13 hE
set_option maxRecDepth 100000 in
theorem p_X11_waitFrom_31 {X : jX} {D : va_G} {ad : Nat → Nat} {cy : Nat → ClassId} (C : jC X (jMain D ad cy) RX11 cX11_waitFrom (some .int) 4 0 0) {z : Int32 × jS} (Q : jRet X (jMain D ad cy) (some (.int z.1), z.2))  (a0 : Int32) (S : jS) (hE : f_X11_waitFrom_31   a0 S = some z) : jJ X (jMain D ad cy) 31 [] [.int a0] S := by
  unfold f_X11_waitFrom_31 at hE
  exact j_iret C Q dX11_waitFrom_31 hE
set_option maxRecDepth 100000 in
theorem p_X11_waitFrom_e {X : jX} {D : va_G} {ad : Nat → Nat} {cy : Nat → ClassId} (C : jC X (jMain D ad cy) RX11 cX11_waitFrom (some .int) 4 0 0) {z : Int32 × jS} (Q : jRet X (jMain D ad cy) (some (.int z.1), z.2))  (x0 : Int32) (x1 : Int32) (x2 : Int32) (S : jS) (hE : f_X11_waitFrom_e   x0 x1 x2 S = some z) : jJ X (jMain D ad cy) 0 [(0, .int x0), (1, .int x1), (2, .int x2)] [] S := by
  unfold f_X11_waitFrom_e at hE
  refine j_iload_n C dX11_waitFrom_0 0 rfl ?_
  refine j_iload_n C dX11_waitFrom_1 1 rfl ?_
  refine j_icmp_le (tgt := 10) C dX11_waitFrom_2 rfl hE (fun hE => ?_) (fun hE => ?_)
  · refine j_sub [0, 1] rfl ?_
    exact p_X11_waitFrom_10 C Q  x0 x1 S hE
  · refine j_iload_n C dX11_waitFrom_5 2 rfl ?_
    refine j_iconst (v := 1) C dX11_waitFrom_6 jc_ic_1 ?_
    refine j_icmp_ge (tgt := 14) C dX11_waitFrom_7 rfl hE (fun hE => ?_) (fun hE => ?_)
    · refine j_iload_n C dX11_waitFrom_14 0 rfl ?_
      refine j_iload_n C dX11_waitFrom_15 1 rfl ?_
      refine j_isub C dX11_waitFrom_16 ?_
      refine j_iload_n C dX11_waitFrom_17 2 rfl ?_
      refine j_irem C dX11_waitFrom_18 hE (fun v1 hE => ?_)
      refine j_istore_n (i := 3) (lv' := [(3, .int v1), (0, .int x0), (1, .int x1), (2, .int x2)]) C dX11_waitFrom_19 rfl (by decide) rfl ?_
      refine j_iload_n C dX11_waitFrom_20 0 rfl ?_
      refine j_if_ne (tgt := 28) C dX11_waitFrom_21 rfl hE (fun hE => ?_) (fun hE => ?_)
      · refine j_iload_n C dX11_waitFrom_28 3 rfl ?_
        refine j_iload_n C dX11_waitFrom_29 0 rfl ?_
        refine j_isub C dX11_waitFrom_30 ?_
        refine j_sub [] rfl ?_
        exact p_X11_waitFrom_31 C Q  (x2 - v1) S hE
      · refine j_iconst (v := 0) C dX11_waitFrom_24 jc_ic_0 ?_
        refine j_goto (tgt := 31) C dX11_waitFrom_25 rfl ?_
        refine j_sub [] rfl ?_
        exact p_X11_waitFrom_31 C Q  0 S hE
    · refine j_sub [0, 1] rfl ?_
      exact p_X11_waitFrom_10 C Q  x0 x1 S hE
theorem c_X11_waitFrom {l : Launch} {D : va_G} {ad : Nat → Nat} {cy : Nat → ClassId} (hO : jOk (jMain D ad cy)) (x0 : Int32) (x1 : Int32) (x2 : Int32) (S : jS) {z : Int32 × jS} (hz : f_X11_waitFrom x0 x1 x2 S = some z) : Met l yX11_waitFrom (.code yX11_waitFrom cX11_waitFrom 4 (some .int) :: jT) { frames := 0, cells := 0, slots := 0, locals := 0 } (va_Pc [.int x0, .int x1, .int x2] (jInv (jMain D ad cy) S)) (jQ (jMain D ad cy) (some (.int z.1), z.2)) 0 0 (yA (jMain D ad cy)) :=
  jMet hO (by decide +kernel) rfl (Nat.le_of_ble_eq_true rfl) (fun X _ C Q => p_X11_waitFrom_e C Q x0 x1 x2 S hz)
theorem k_X11_212_X11_waitFrom {X : jX} {D : va_G} {ad : Nat → Nat} {cy : Nat → ClassId} {cc : ByteArray} {ret : Option FieldType} {nL fr lo pc : Nat} {lv : List (Nat × Value)} {st : List Value} {S : jS} {β : Type} {z : β} (C : jC X (jMain D ad cy) RX11 cc ret nL fr lo) {a0 : Int32} {a1 : Int32} {a2 : Int32} {E : Int32 → jS → Option β} (d : decode cc pc = .ok (.invokestatic 212, 3)) (hE : jcl (f_X11_waitFrom a0 a1 a2 S) E = some z) (hfr : 1 ≤ fr) (hlo : 23 ≤ lo) (hst : (st.map fun v => v.category).sum ≤ 8) (K : ∀ (v : Int32) (S1 : jS), E v S1 = some z → jJ X (jMain D ad cy) (pc + 3) lv (.int v :: st) S1) : jJ X (jMain D ad cy) pc lv (.int a2 :: .int a1 :: .int a0 :: st) S := by
  obtain ⟨v, h1, h2⟩ := jcl_some hE
  exact j_callS (n := 3) (As := [.int a0, .int a1, .int a2]) C (c_X11_waitFrom C.2.2.2.2.2.2.1 a0 a1 a2 S h1) tw_739 tw_740 tw_69 tw_741 (by decide +kernel) rfl hfr hlo hst rfl d (K _ _ h2)
set_option maxRecDepth 100000 in
theorem p_X11_next_10 {X : jX} {D : va_G} {ad : Nat → Nat} {cy : Nat → ClassId} (C : jC X (jMain D ad cy) RX11 cX11_next (some .int) 6 1 23) {z : Int32 × jS} (Q : jRet X (jMain D ad cy) (some (.int z.1), z.2))   (S : jS) (hE : f_X11_next_10    S = some z) : jJ X (jMain D ad cy) 10 [(0, .ref (ad 0))] [] S := by
  unfold f_X11_next_10 at hE
  refine j_aload_n C dX11_next_10 0 rfl ?_
  refine k_X11_74_X11_refuseBad C dX11_next_11 hE (Nat.le_of_ble_eq_true rfl) (Nat.le_of_ble_eq_true rfl) (Nat.le_of_ble_eq_true rfl) (fun v2 S1 hE => ?_)
  exact j_iret C Q dX11_next_14 hE
set_option maxRecDepth 100000 in
theorem p_X11_next_67 {X : jX} {D : va_G} {ad : Nat → Nat} {cy : Nat → ClassId} (C : jC X (jMain D ad cy) RX11 cX11_next (some .int) 6 1 23) {z : Int32 × jS} (Q : jRet X (jMain D ad cy) (some (.int z.1), z.2)) {g : Int32 → Int32 → Int32 → jS → Option (Int32 × jS)} (hg : ∀ (x1 : Int32) (x2 : Int32) (x3 : Int32) (S : jS), g x1 x2 x3 S = some z → jJ X (jMain D ad cy) 19 [(0, .ref (ad 0)), (1, .int x1), (2, .int x2), (3, .int x3)] [] S) {k73 : Int32 → jS → Option (Int32 × jS)} (hk73 : ∀ (x2 : Int32) (S : jS), k73 x2 S = some z → jJ X (jMain D ad cy) 73 [(2, .int x2)] [] S) (x1 : Int32) (x2 : Int32) (x3 : Int32) (S : jS) (hE : f_X11_next_67  g k73 x1 x2 x3 S = some z) : jJ X (jMain D ad cy) 67 [(0, .ref (ad 0)), (1, .int x1), (2, .int x2), (3, .int x3)] [] S := by
  unfold f_X11_next_67 at hE
  refine j_iinc (v := (x3 + 1)) (lv' := [(3, .int (x3 + 1)), (0, .ref (ad 0)), (1, .int x1), (2, .int x2)]) C dX11_next_67 3 rfl (congrArg (fun w => x3 + w) jc_ic_1) (by decide) rfl ?_
  refine j_goto (tgt := 19) C dX11_next_70 rfl ?_
  refine j_sub [1, 2, 3, 0] rfl ?_
  exact hg x1 x2 (x3 + 1) S hE
set_option maxRecDepth 100000 in
theorem p_X11_next_66 {X : jX} {D : va_G} {ad : Nat → Nat} {cy : Nat → ClassId} (C : jC X (jMain D ad cy) RX11 cX11_next (some .int) 6 1 23) {z : Int32 × jS} (Q : jRet X (jMain D ad cy) (some (.int z.1), z.2)) {g : Int32 → Int32 → Int32 → jS → Option (Int32 × jS)} (hg : ∀ (x1 : Int32) (x2 : Int32) (x3 : Int32) (S : jS), g x1 x2 x3 S = some z → jJ X (jMain D ad cy) 19 [(0, .ref (ad 0)), (1, .int x1), (2, .int x2), (3, .int x3)] [] S) {k73 : Int32 → jS → Option (Int32 × jS)} (hk73 : ∀ (x2 : Int32) (S : jS), k73 x2 S = some z → jJ X (jMain D ad cy) 73 [(2, .int x2)] [] S) (a0 : Int32) (x1 : Int32) (x3 : Int32) (S : jS) (hE : f_X11_next_66  g k73 a0 x1 x3 S = some z) : jJ X (jMain D ad cy) 66 [(0, .ref (ad 0)), (1, .int x1), (3, .int x3)] [.int a0] S := by
  unfold f_X11_next_66 at hE
  refine j_istore_n (i := 2) (lv' := [(2, .int a0), (0, .ref (ad 0)), (1, .int x1), (3, .int x3)]) C dX11_next_66 rfl (by decide) rfl ?_
  refine j_sub [1, 2, 0, 3] rfl ?_
  exact p_X11_next_67 C Q hg hk73 x1 a0 x3 S hE
set_option maxRecDepth 100000 in
theorem p_X11_next_19 {X : jX} {D : va_G} {ad : Nat → Nat} {cy : Nat → ClassId} (C : jC X (jMain D ad cy) RX11 cX11_next (some .int) 6 1 23) {z : Int32 × jS} (Q : jRet X (jMain D ad cy) (some (.int z.1), z.2)) {g : Int32 → Int32 → Int32 → jS → Option (Int32 × jS)} (hg : ∀ (x1 : Int32) (x2 : Int32) (x3 : Int32) (S : jS), g x1 x2 x3 S = some z → jJ X (jMain D ad cy) 19 [(0, .ref (ad 0)), (1, .int x1), (2, .int x2), (3, .int x3)] [] S) {k73 : Int32 → jS → Option (Int32 × jS)} (hk73 : ∀ (x2 : Int32) (S : jS), k73 x2 S = some z → jJ X (jMain D ad cy) 73 [(2, .int x2)] [] S) (x1 : Int32) (x2 : Int32) (x3 : Int32) (S : jS) (hE : f_X11_next_19  g k73 x1 x2 x3 S = some z) : jJ X (jMain D ad cy) 19 [(0, .ref (ad 0)), (1, .int x1), (2, .int x2), (3, .int x3)] [] S := by
  unfold f_X11_next_19 at hE
  refine j_iload_n C dX11_next_19 3 rfl ?_
  refine j_bipush (v := 8) C dX11_next_20 jc_bp_8 ?_
  refine j_icmp_ge (tgt := 73) C dX11_next_22 rfl hE (fun hE => ?_) (fun hE => ?_)
  · refine j_sub [2] rfl ?_
    exact hk73 x2 S hE
  · refine j_aload_n C dX11_next_25 0 rfl ?_
    refine g_X11_44_0 C dX11_next_26 ?_
    refine g_X11_96_21 C dX11_next_29 ?_
    refine j_iload_n C dX11_next_32 3 rfl ?_
    refine l_22 C dX11_next_33 hE (fun v1 hE => ?_)
    refine j_istore (lv' := [(4, .int v1), (0, .ref (ad 0)), (1, .int x1), (2, .int x2), (3, .int x3)]) C dX11_next_34 (by decide) rfl ?_
    refine j_iload C dX11_next_36 0 rfl ?_
    refine j_if_le (tgt := 67) C dX11_next_38 rfl hE (fun hE => ?_) (fun hE => ?_)
    · refine j_sub [1, 2, 3, 4] rfl ?_
      exact p_X11_next_67 C Q hg hk73 x1 x2 x3 S hE
    · refine j_iload_n C dX11_next_41 2 rfl ?_
      refine j_iload_n C dX11_next_42 4 rfl ?_
      refine j_iload C dX11_next_43 0 rfl ?_
      refine k_X11_212_X11_waitFrom C dX11_next_45 hE (Nat.le_of_ble_eq_true rfl) (Nat.le_of_ble_eq_true rfl) (Nat.le_of_ble_eq_true rfl) (fun v3 S2 hE => ?_)
      refine j_istore (lv' := [(5, .int v3), (4, .int v1), (0, .ref (ad 0)), (1, .int x1), (2, .int x2), (3, .int x3)]) C dX11_next_48 (by decide) rfl ?_
      refine j_iload_n C dX11_next_50 4 rfl ?_
      refine j_iconst (v := (-1)) C dX11_next_51 jc_ic_m1 ?_
      refine j_icmp_ne (tgt := 60) C dX11_next_52 rfl hE (fun hE => ?_) (fun hE => ?_)
      · refine j_iload_n C dX11_next_60 4 rfl ?_
        refine j_iload C dX11_next_61 0 rfl ?_
        refine j_mmin C tm_742 tm_664 tm_87 tm_665 dX11_next_63 (Nat.le_of_ble_eq_true rfl) (Nat.le_of_ble_eq_true rfl) ?_
        refine j_sub [2, 3, 5] rfl ?_
        exact p_X11_next_66 C Q hg hk73 (if v3 < x2 then v3 else x2) x1 x3 S2 hE
      · refine j_iload C dX11_next_55 0 rfl ?_
        refine j_goto (tgt := 66) C dX11_next_57 rfl ?_
        refine j_sub [2, 3, 5] rfl ?_
        exact p_X11_next_66 C Q hg hk73 v3 x1 x3 S2 hE
theorem q_X11_next_19 {X : jX} {D : va_G} {ad : Nat → Nat} {cy : Nat → ClassId} (C : jC X (jMain D ad cy) RX11 cX11_next (some .int) 6 1 23) {z : Int32 × jS} (Q : jRet X (jMain D ad cy) (some (.int z.1), z.2)) {k73 : Int32 → jS → Option (Int32 × jS)} (hk73 : ∀ (x2 : Int32) (S : jS), k73 x2 S = some z → jJ X (jMain D ad cy) 73 [(2, .int x2)] [] S) (x1 : Int32) (x2 : Int32) (x3 : Int32) (S : jS) (hE : lp_X11_next_19  k73 x1 x2 x3 S = some z) : jJ X (jMain D ad cy) 19 [(0, .ref (ad 0)), (1, .int x1), (2, .int x2), (3, .int x3)] [] S :=
  jloop_P (α := Int32 × Int32 × Int32 × jS) (B := (fun g q => f_X11_next_19  (fun x1 x2 x3 S => g (x1, x2, x3, S)) k73 q.1 q.2.1 q.2.2.1 q.2.2.2)) (P := fun q => jJ X (jMain D ad cy) 19 [(0, .ref (ad 0)), (1, .int q.1), (2, .int q.2.1), (3, .int q.2.2.1)] [] q.2.2.2) (fun g q hg h => p_X11_next_19 C Q (g := fun x1 x2 x3 S => g (x1, x2, x3, S)) (fun x1 x2 x3 S h => hg (x1, x2, x3, S) h) hk73 q.1 q.2.1 q.2.2.1 q.2.2.2 h) jN (x1, x2, x3, S) hE
set_option maxRecDepth 100000 in
theorem p_X11_next_73 {X : jX} {D : va_G} {ad : Nat → Nat} {cy : Nat → ClassId} (C : jC X (jMain D ad cy) RX11 cX11_next (some .int) 6 1 23) {z : Int32 × jS} (Q : jRet X (jMain D ad cy) (some (.int z.1), z.2))  (x2 : Int32) (S : jS) (hE : f_X11_next_73   x2 S = some z) : jJ X (jMain D ad cy) 73 [(2, .int x2)] [] S := by
  unfold f_X11_next_73 at hE
  refine j_iload_n C dX11_next_73 0 rfl ?_
  exact j_iret C Q dX11_next_74 hE
set_option maxRecDepth 100000 in
theorem p_X11_next_e {X : jX} {D : va_G} {ad : Nat → Nat} {cy : Nat → ClassId} (C : jC X (jMain D ad cy) RX11 cX11_next (some .int) 6 1 23) {z : Int32 × jS} (Q : jRet X (jMain D ad cy) (some (.int z.1), z.2))  (x1 : Int32) (S : jS) (hE : f_X11_next_e   x1 S = some z) : jJ X (jMain D ad cy) 0 [(0, .ref (ad 0)), (1, .int x1)] [] S := by
  unfold f_X11_next_e at hE
  refine j_iload_n C dX11_next_0 1 rfl ?_
  refine j_if_lt (tgt := 10) C dX11_next_1 rfl hE (fun hE => ?_) (fun hE => ?_)
  · refine j_sub [0] rfl ?_
    exact p_X11_next_10 C Q   S hE
  · refine j_iload_n C dX11_next_4 1 rfl ?_
    refine j_ldc (v := 99999) C dX11_next_5 tw_721 ?_
    refine j_icmp_le (tgt := 15) C dX11_next_7 rfl hE (fun hE => ?_) (fun hE => ?_)
    · refine j_iconst (v := (-1)) C dX11_next_15 jc_ic_m1 ?_
      refine j_istore_n (i := 2) (lv' := [(2, .int (-1)), (0, .ref (ad 0)), (1, .int x1)]) C dX11_next_16 rfl (by decide) rfl ?_
      refine j_iconst (v := 0) C dX11_next_17 jc_ic_0 ?_
      refine j_istore_n (i := 3) (lv' := [(3, .int 0), (2, .int (-1)), (0, .ref (ad 0)), (1, .int x1)]) C dX11_next_18 rfl (by decide) rfl ?_
      refine j_sub [2, 3, 1, 0] rfl ?_
      exact q_X11_next_19 C Q (p_X11_next_73 C Q ) x1 (-1) 0 S hE
    · refine j_sub [0] rfl ?_
      exact p_X11_next_10 C Q   S hE
theorem c_X11_next {l : Launch} {D : va_G} {ad : Nat → Nat} {cy : Nat → ClassId} (hO : jOk (jMain D ad cy)) (x1 : Int32) (S : jS) {z : Int32 × jS} (hz : f_X11_next x1 S = some z) : Met l yX11_next (.code yX11_next cX11_next 6 (some .int) :: jT) { frames := 1, cells := 0, slots := 0, locals := 23 } (va_Pc [.ref (ad 0), .int x1] (jInv (jMain D ad cy) S)) (jQ (jMain D ad cy) (some (.int z.1), z.2)) 0 0 (yA (jMain D ad cy)) :=
  jMet hO (by decide +kernel) rfl (Nat.le_of_ble_eq_true rfl) (fun X _ C Q => p_X11_next_e C Q x1 S hz)
set_option maxRecDepth 100000 in
theorem p_X12_reading_17 {X : jX} {D : va_G} {ad : Nat → Nat} {cy : Nat → ClassId} (C : jC X (jMain D ad cy) RX12 cX12_reading (some .int) 4 2 45) {z : Int32 × jS} (Q : jRet X (jMain D ad cy) (some (.int z.1), z.2))   (S : jS) (hE : f_X12_reading_17    S = some z) : jJ X (jMain D ad cy) 17 [(0, .ref (ad 41))] [] S := by
  unfold f_X12_reading_17 at hE
  refine j_aload_n C dX12_reading_17 0 rfl ?_
  refine j_bipush (v := (-2)) C dX12_reading_18 jc_bp_m2 ?_
  refine k_X12_87_X12_bad C dX12_reading_20 hE (Nat.le_of_ble_eq_true rfl) (Nat.le_of_ble_eq_true rfl) (Nat.le_of_ble_eq_true rfl) (fun v2 S1 hE => ?_)
  exact j_iret C Q dX12_reading_23 hE
set_option maxRecDepth 100000 in
theorem p_X12_reading_e {X : jX} {D : va_G} {ad : Nat → Nat} {cy : Nat → ClassId} (C : jC X (jMain D ad cy) RX12 cX12_reading (some .int) 4 2 45) {z : Int32 × jS} (Q : jRet X (jMain D ad cy) (some (.int z.1), z.2))  (x1 : Int32) (x2 : Int32) (S : jS) (hE : f_X12_reading_e   x1 x2 S = some z) : jJ X (jMain D ad cy) 0 [(0, .ref (ad 41)), (1, .int x1), (2, .int x2)] [] S := by
  unfold f_X12_reading_e at hE
  refine j_iload_n C dX12_reading_0 1 rfl ?_
  refine k_X12_131_X12_isNumber C dX12_reading_1 hE (Nat.le_of_ble_eq_true rfl) (Nat.le_of_ble_eq_true rfl) (Nat.le_of_ble_eq_true rfl) (fun v2 S1 hE => ?_)
  refine j_if_eq (tgt := 17) C dX12_reading_4 rfl hE (fun hE => ?_) (fun hE => ?_)
  · refine j_sub [0] rfl ?_
    exact p_X12_reading_17 C Q   S1 hE
  · refine j_iload_n C dX12_reading_7 2 rfl ?_
    refine j_i2l C dX12_reading_8 ?_
    refine j_lconst (v := 0) C dX12_reading_9 jc_lc_0 ?_
    refine j_lconst (v := 1) C dX12_reading_10 jc_lc_1 ?_
    refine k_X12_59_X12_in C dX12_reading_11 hE (Nat.le_of_ble_eq_true rfl) (Nat.le_of_ble_eq_true rfl) (Nat.le_of_ble_eq_true rfl) (fun v4 S3 hE => ?_)
    refine j_if_ne (tgt := 24) C dX12_reading_14 rfl hE (fun hE => ?_) (fun hE => ?_)
    · refine j_aload_n C dX12_reading_24 0 rfl ?_
      refine g_X12_7_41 C dX12_reading_25 ?_
      refine j_bipush (v := 10) C dX12_reading_28 jc_bp_10 ?_
      refine l_42 C dX12_reading_30 hE (fun v5 hE => ?_)
      refine j_bipush (v := 8) C dX12_reading_31 jc_bp_8 ?_
      refine j_icmp_ne (tgt := 41) C dX12_reading_33 rfl hE (fun hE => ?_) (fun hE => ?_)
      · refine j_bipush (v := 13) C dX12_reading_41 jc_bp_13 ?_
        refine j_iconst (v := 4) C dX12_reading_43 jc_ic_4 ?_
        refine j_aload_n C dX12_reading_44 0 rfl ?_
        refine g_X12_7_41 C dX12_reading_45 ?_
        refine j_bipush (v := 10) C dX12_reading_48 jc_bp_10 ?_
        refine l_42 C dX12_reading_50 hE (fun v6 hE => ?_)
        refine j_imul C dX12_reading_51 ?_
        refine j_iadd C dX12_reading_52 ?_
        refine j_istore_n (i := 3) (lv' := [(3, .int (13 + (4 * v6))), (0, .ref (ad 41)), (1, .int x1), (2, .int x2)]) C dX12_reading_53 rfl (by decide) rfl ?_
        refine j_aload_n C dX12_reading_54 1 rfl ?_
        refine g_X12_7_41 C dX12_reading_55 ?_
        refine j_iload_n C dX12_reading_58 0 rfl ?_
        refine j_iload_n C dX12_reading_59 2 rfl ?_
        refine s_42 C dX12_reading_60 hE (fun S7 hE => ?_)
        refine j_aload_n C dX12_reading_61 1 rfl ?_
        refine g_X12_7_41 C dX12_reading_62 ?_
        refine j_iload_n C dX12_reading_65 0 rfl ?_
        refine j_iconst (v := 1) C dX12_reading_66 jc_ic_1 ?_
        refine j_iadd C dX12_reading_67 ?_
        refine j_iload_n C dX12_reading_68 3 rfl ?_
        refine s_42 C dX12_reading_69 hE (fun S8 hE => ?_)
        refine j_aload_n C dX12_reading_70 1 rfl ?_
        refine g_X12_7_41 C dX12_reading_71 ?_
        refine j_iload_n C dX12_reading_74 0 rfl ?_
        refine j_iconst (v := 2) C dX12_reading_75 jc_ic_2 ?_
        refine j_iadd C dX12_reading_76 ?_
        refine j_aload_n C dX12_reading_77 1 rfl ?_
        refine g_X12_7_41 C dX12_reading_78 ?_
        refine j_bipush (v := 8) C dX12_reading_81 jc_bp_8 ?_
        refine l_42 C dX12_reading_83 hE (fun v9 hE => ?_)
        refine s_42 C dX12_reading_84 hE (fun S10 hE => ?_)
        refine j_aload_n C dX12_reading_85 1 rfl ?_
        refine g_X12_7_41 C dX12_reading_86 ?_
        refine j_iload_n C dX12_reading_89 0 rfl ?_
        refine j_iconst (v := 3) C dX12_reading_90 jc_ic_3 ?_
        refine j_iadd C dX12_reading_91 ?_
        refine j_aload_n C dX12_reading_92 1 rfl ?_
        refine g_X12_7_41 C dX12_reading_93 ?_
        refine j_bipush (v := 9) C dX12_reading_96 jc_bp_9 ?_
        refine l_42 C dX12_reading_98 hE (fun v11 hE => ?_)
        refine s_42 C dX12_reading_99 hE (fun S12 hE => ?_)
        refine j_aload_n C dX12_reading_100 1 rfl ?_
        refine g_X12_7_41 C dX12_reading_101 ?_
        refine j_bipush (v := 10) C dX12_reading_104 jc_bp_10 ?_
        refine j_dup2 C dX12_reading_106 rfl rfl ?_
        refine l_42 C dX12_reading_107 hE (fun v13 hE => ?_)
        refine j_iconst (v := 1) C dX12_reading_108 jc_ic_1 ?_
        refine j_iadd C dX12_reading_109 ?_
        refine s_42 C dX12_reading_110 hE (fun S14 hE => ?_)
        refine j_aload_n C dX12_reading_111 1 rfl ?_
        refine g_X12_7_41 C dX12_reading_112 ?_
        refine j_bipush (v := 10) C dX12_reading_115 jc_bp_10 ?_
        refine l_42 C dX12_reading_117 hE (fun v15 hE => ?_)
        exact j_iret C Q dX12_reading_118 hE
      · refine j_aload_n C dX12_reading_36 0 rfl ?_
        refine k_X12_186_X12_full C dX12_reading_37 hE (Nat.le_of_ble_eq_true rfl) (Nat.le_of_ble_eq_true rfl) (Nat.le_of_ble_eq_true rfl) (fun v17 S16 hE => ?_)
        exact j_iret C Q dX12_reading_40 hE
    · refine j_sub [0] rfl ?_
      exact p_X12_reading_17 C Q   S3 hE
theorem c_X12_reading {l : Launch} {D : va_G} {ad : Nat → Nat} {cy : Nat → ClassId} (hO : jOk (jMain D ad cy)) (x1 : Int32) (x2 : Int32) (S : jS) {z : Int32 × jS} (hz : f_X12_reading x1 x2 S = some z) : Met l yX12_reading (.code yX12_reading cX12_reading 4 (some .int) :: jT) { frames := 2, cells := 0, slots := 0, locals := 45 } (va_Pc [.ref (ad 41), .int x1, .int x2] (jInv (jMain D ad cy) S)) (jQ (jMain D ad cy) (some (.int z.1), z.2)) 0 0 (yA (jMain D ad cy)) :=
  jMet hO (by decide +kernel) rfl (Nat.le_of_ble_eq_true rfl) (fun X _ C Q => p_X12_reading_e C Q x1 x2 S hz)
set_option maxRecDepth 100000 in
theorem p_X10_addThree_r23_39 {X : jX} {D : va_G} {ad : Nat → Nat} {cy : Nat → ClassId} (C : jC X (jMain D ad cy) RX10 cX10_addThree (none) 6 0 0) {z : jS} (Q : jRet X (jMain D ad cy) (none, z))   (S : jS) (hE : f_X10_addThree_r23_39    S = some z) : jJ X (jMain D ad cy) 39 [] [] S := by
  unfold f_X10_addThree_r23_39 at hE
  exact j_vret C Q dX10_addThree_39 hE
set_option maxRecDepth 100000 in
theorem p_X10_addThree_r23_e {X : jX} {D : va_G} {ad : Nat → Nat} {cy : Nat → ClassId} (C : jC X (jMain D ad cy) RX10 cX10_addThree (none) 6 0 0) {z : jS} (Q : jRet X (jMain D ad cy) (none, z))  (x1 : Int32) (x2 : Int32) (x3 : Int32) (x4 : Int32) (S : jS) (hE : f_X10_addThree_r23_e   x1 x2 x3 x4 S = some z) : jJ X (jMain D ad cy) 0 [(0, .ref (ad 23)), (1, .int x1), (2, .int x2), (3, .int x3), (4, .int x4)] [] S := by
  unfold f_X10_addThree_r23_e at hE
  refine j_iconst (v := 3) C dX10_addThree_0 jc_ic_3 ?_
  refine j_iload_n C dX10_addThree_1 1 rfl ?_
  refine j_imul C dX10_addThree_2 ?_
  refine j_istore (lv' := [(5, .int (3 * x1)), (0, .ref (ad 23)), (1, .int x1), (2, .int x2), (3, .int x3), (4, .int x4)]) C dX10_addThree_3 (by decide) rfl ?_
  refine j_iload C dX10_addThree_5 0 rfl ?_
  refine j_if_lt (tgt := 39) C dX10_addThree_7 rfl hE (fun hE => ?_) (fun hE => ?_)
  · refine j_sub [] rfl ?_
    exact p_X10_addThree_r23_39 C Q   S hE
  · refine j_iload C dX10_addThree_10 0 rfl ?_
    refine j_iconst (v := 2) C dX10_addThree_12 jc_ic_2 ?_
    refine j_iadd C dX10_addThree_13 ?_
    refine j_aload_n C dX10_addThree_14 1 rfl ?_
    refine n_23 C dX10_addThree_15 ?_
    refine j_icmp_ge (tgt := 39) C dX10_addThree_16 rfl hE (fun hE => ?_) (fun hE => ?_)
    · refine j_sub [] rfl ?_
      exact p_X10_addThree_r23_39 C Q   S hE
    · refine j_aload_n C dX10_addThree_19 1 rfl ?_
      refine j_iload C dX10_addThree_20 0 rfl ?_
      refine j_iload_n C dX10_addThree_22 3 rfl ?_
      refine s_23 C dX10_addThree_23 hE (fun S1 hE => ?_)
      refine j_aload_n C dX10_addThree_24 1 rfl ?_
      refine j_iload C dX10_addThree_25 0 rfl ?_
      refine j_iconst (v := 1) C dX10_addThree_27 jc_ic_1 ?_
      refine j_iadd C dX10_addThree_28 ?_
      refine j_iload_n C dX10_addThree_29 4 rfl ?_
      refine s_23 C dX10_addThree_30 hE (fun S2 hE => ?_)
      refine j_aload_n C dX10_addThree_31 1 rfl ?_
      refine j_iload C dX10_addThree_32 0 rfl ?_
      refine j_iconst (v := 2) C dX10_addThree_34 jc_ic_2 ?_
      refine j_iadd C dX10_addThree_35 ?_
      refine j_iload C dX10_addThree_36 5 rfl ?_
      refine s_23 C dX10_addThree_38 hE (fun S3 hE => ?_)
      refine j_sub [] rfl ?_
      exact p_X10_addThree_r23_39 C Q   S3 hE
theorem c_X10_addThree_r23 {l : Launch} {D : va_G} {ad : Nat → Nat} {cy : Nat → ClassId} (hO : jOk (jMain D ad cy)) (x1 : Int32) (x2 : Int32) (x3 : Int32) (x4 : Int32) (S : jS) {z : jS} (hz : f_X10_addThree_r23 x1 x2 x3 x4 S = some z) : Met l yX10_addThree (.code yX10_addThree cX10_addThree 6 (none) :: jT) { frames := 0, cells := 0, slots := 0, locals := 0 } (va_Pc [.ref (ad 23), .int x1, .int x2, .int x3, .int x4] (jInv (jMain D ad cy) S)) (jQ (jMain D ad cy) (none, z)) 0 0 (yA (jMain D ad cy)) :=
  jMet hO (by decide +kernel) rfl (Nat.le_of_ble_eq_true rfl) (fun X _ C Q => p_X10_addThree_r23_e C Q x1 x2 x3 x4 S hz)
theorem k_X10_43_X10_addThree_r23 {X : jX} {D : va_G} {ad : Nat → Nat} {cy : Nat → ClassId} {cc : ByteArray} {ret : Option FieldType} {nL fr lo pc : Nat} {lv : List (Nat × Value)} {st : List Value} {S : jS} {β : Type} {z : β} (C : jC X (jMain D ad cy) RX10 cc ret nL fr lo) {a1 : Int32} {a2 : Int32} {a3 : Int32} {a4 : Int32} {E : jS → Option β} (d : decode cc pc = .ok (.invokestatic 43, 3)) (hE : jcv (f_X10_addThree_r23 a1 a2 a3 a4 S) E = some z) (hfr : 1 ≤ fr) (hlo : 25 ≤ lo) (hst : (st.map fun v => v.category).sum ≤ 8) (K : ∀ S1, E S1 = some z → jJ X (jMain D ad cy) (pc + 3) lv st S1) : jJ X (jMain D ad cy) pc lv (.int a4 :: .int a3 :: .int a2 :: .int a1 :: .ref (ad 23) :: st) S := by
  obtain ⟨v, h1, h2⟩ := jcv_some hE
  exact j_callS (n := 5) (As := [.ref (ad 23), .int a1, .int a2, .int a3, .int a4]) C (c_X10_addThree_r23 C.2.2.2.2.2.2.1 a1 a2 a3 a4 S h1) tw_751 tw_752 tw_80 tw_753 (by decide +kernel) rfl hfr hlo hst rfl d (K _ h2)
set_option maxRecDepth 100000 in
theorem p_X10_addReading_e {X : jX} {D : va_G} {ad : Nat → Nat} {cy : Nat → ClassId} (C : jC X (jMain D ad cy) RX10 cX10_addReading (none) 3 1 25) {z : jS} (Q : jRet X (jMain D ad cy) (none, z))  (x1 : Int32) (x2 : Int32) (S : jS) (hE : f_X10_addReading_e   x1 x2 S = some z) : jJ X (jMain D ad cy) 0 [(0, .ref (ad 21)), (1, .int x1), (2, .int x2)] [] S := by
  unfold f_X10_addReading_e at hE
  refine j_aload_n C dX10_addReading_0 0 rfl ?_
  refine g_X10_15_21 C dX10_addReading_1 ?_
  refine j_aload_n C dX10_addReading_4 0 rfl ?_
  refine g_X10_28_21 C dX10_addReading_5 ?_
  refine j_iload_n C dX10_addReading_8 1 rfl ?_
  refine j_iload_n C dX10_addReading_9 2 rfl ?_
  refine j_aload_n C dX10_addReading_10 0 rfl ?_
  refine g_X10_24_21 C dX10_addReading_11 ?_
  refine k_X10_43_X10_addThree_r23 C dX10_addReading_14 hE (Nat.le_of_ble_eq_true rfl) (Nat.le_of_ble_eq_true rfl) (Nat.le_of_ble_eq_true rfl) (fun S1 hE => ?_)
  refine j_aload_n C dX10_addReading_17 0 rfl ?_
  refine j_dup C dX10_addReading_18 rfl ?_
  refine g_X10_28_21 C dX10_addReading_19 ?_
  refine j_iconst (v := 1) C dX10_addReading_22 jc_ic_1 ?_
  refine j_iadd C dX10_addReading_23 ?_
  refine p_X10_28_21 C dX10_addReading_24 hE (fun S2 hE => ?_)
  exact j_vret C Q dX10_addReading_27 hE
theorem c_X10_addReading {l : Launch} {D : va_G} {ad : Nat → Nat} {cy : Nat → ClassId} (hO : jOk (jMain D ad cy)) (x1 : Int32) (x2 : Int32) (S : jS) {z : jS} (hz : f_X10_addReading x1 x2 S = some z) : Met l yX10_addReading (.code yX10_addReading cX10_addReading 3 (none) :: jT) { frames := 1, cells := 0, slots := 0, locals := 25 } (va_Pc [.ref (ad 21), .int x1, .int x2] (jInv (jMain D ad cy) S)) (jQ (jMain D ad cy) (none, z)) 0 0 (yA (jMain D ad cy)) :=
  jMet hO (by decide +kernel) rfl (Nat.le_of_ble_eq_true rfl) (fun X _ C Q => p_X10_addReading_e C Q x1 x2 S hz)
theorem k_X11_224_X10_addReading {X : jX} {D : va_G} {ad : Nat → Nat} {cy : Nat → ClassId} {cc : ByteArray} {ret : Option FieldType} {nL fr lo pc : Nat} {lv : List (Nat × Value)} {st : List Value} {S : jS} {β : Type} {z : β} (C : jC X (jMain D ad cy) RX11 cc ret nL fr lo) {a0 : Int32} {a1 : Int32} {E : jS → Option β} (d : decode cc pc = .ok (.invokevirtual 224, 3)) (hE : jcv (f_X10_addReading a0 a1 S) E = some z) (hfr : 2 ≤ fr) (hlo : 47 ≤ lo) (hst : (st.map fun v => v.category).sum ≤ 8) (K : ∀ S1, E S1 = some z → jJ X (jMain D ad cy) (pc + 3) lv st S1) : jJ X (jMain D ad cy) pc lv (.int a1 :: .int a0 :: .ref (ad 21) :: st) S := by
  obtain ⟨v, h1, h2⟩ := jcv_some hE
  exact j_callV (k := 21) (ci := 10) (T := TX10) (N := 8) (n := 2) (As := [.int a0, .int a1]) C (c_X10_addReading C.2.2.2.2.2.2.1 a0 a1 S h1) tw_747 tw_748 tw_749 tw_80 tw_750 (by decide +kernel) rfl (by decide : 21 < 56) rfl rfl hfr hlo hst rfl d (K _ h2)
set_option maxRecDepth 100000 in
theorem p_X11_reading_14 {X : jX} {D : va_G} {ad : Nat → Nat} {cy : Nat → ClassId} (C : jC X (jMain D ad cy) RX11 cX11_reading (some .int) 3 2 47) {z : Int32 × jS} (Q : jRet X (jMain D ad cy) (some (.int z.1), z.2))   (S : jS) (hE : f_X11_reading_14    S = some z) : jJ X (jMain D ad cy) 14 [(0, .ref (ad 0))] [] S := by
  unfold f_X11_reading_14 at hE
  refine j_aload_n C dX11_reading_14 0 rfl ?_
  refine k_X11_74_X11_refuseBad C dX11_reading_15 hE (Nat.le_of_ble_eq_true rfl) (Nat.le_of_ble_eq_true rfl) (Nat.le_of_ble_eq_true rfl) (fun v2 S1 hE => ?_)
  exact j_iret C Q dX11_reading_18 hE
set_option maxRecDepth 100000 in
theorem p_X11_reading_e {X : jX} {D : va_G} {ad : Nat → Nat} {cy : Nat → ClassId} (C : jC X (jMain D ad cy) RX11 cX11_reading (some .int) 3 2 47) {z : Int32 × jS} (Q : jRet X (jMain D ad cy) (some (.int z.1), z.2))  (x1 : Int32) (x2 : Int32) (S : jS) (hE : f_X11_reading_e   x1 x2 S = some z) : jJ X (jMain D ad cy) 0 [(0, .ref (ad 0)), (1, .int x1), (2, .int x2)] [] S := by
  unfold f_X11_reading_e at hE
  refine j_iload_n C dX11_reading_0 1 rfl ?_
  refine k_X11_153_X11_isNumber C dX11_reading_1 hE (Nat.le_of_ble_eq_true rfl) (Nat.le_of_ble_eq_true rfl) (Nat.le_of_ble_eq_true rfl) (fun v2 S1 hE => ?_)
  refine j_if_eq (tgt := 14) C dX11_reading_4 rfl hE (fun hE => ?_) (fun hE => ?_)
  · refine j_sub [0] rfl ?_
    exact p_X11_reading_14 C Q   S1 hE
  · refine j_iload_n C dX11_reading_7 2 rfl ?_
    refine k_X11_160_X11_isBit C dX11_reading_8 hE (Nat.le_of_ble_eq_true rfl) (Nat.le_of_ble_eq_true rfl) (Nat.le_of_ble_eq_true rfl) (fun v4 S3 hE => ?_)
    refine j_if_ne (tgt := 19) C dX11_reading_11 rfl hE (fun hE => ?_) (fun hE => ?_)
    · refine j_aload_n C dX11_reading_19 0 rfl ?_
      refine g_X11_44_0 C dX11_reading_20 ?_
      refine g_X11_221_21 C dX11_reading_23 ?_
      refine j_bipush (v := 8) C dX11_reading_26 jc_bp_8 ?_
      refine j_icmp_lt (tgt := 36) C dX11_reading_28 rfl hE (fun hE => ?_) (fun hE => ?_)
      · refine j_aload_n C dX11_reading_36 0 rfl ?_
        refine g_X11_44_0 C dX11_reading_37 ?_
        refine j_iload_n C dX11_reading_40 1 rfl ?_
        refine j_iload_n C dX11_reading_41 2 rfl ?_
        refine k_X11_224_X10_addReading C dX11_reading_42 hE (Nat.le_of_ble_eq_true rfl) (Nat.le_of_ble_eq_true rfl) (Nat.le_of_ble_eq_true rfl) (fun S5 hE => ?_)
        refine j_aload_n C dX11_reading_45 0 rfl ?_
        refine g_X11_44_0 C dX11_reading_46 ?_
        refine g_X11_221_21 C dX11_reading_49 ?_
        exact j_iret C Q dX11_reading_52 hE
      · refine j_aload_n C dX11_reading_31 0 rfl ?_
        refine k_X11_109_X11_refuseFull C dX11_reading_32 hE (Nat.le_of_ble_eq_true rfl) (Nat.le_of_ble_eq_true rfl) (Nat.le_of_ble_eq_true rfl) (fun v7 S6 hE => ?_)
        exact j_iret C Q dX11_reading_35 hE
    · refine j_sub [0] rfl ?_
      exact p_X11_reading_14 C Q   S3 hE
theorem c_X11_reading {l : Launch} {D : va_G} {ad : Nat → Nat} {cy : Nat → ClassId} (hO : jOk (jMain D ad cy)) (x1 : Int32) (x2 : Int32) (S : jS) {z : Int32 × jS} (hz : f_X11_reading x1 x2 S = some z) : Met l yX11_reading (.code yX11_reading cX11_reading 3 (some .int) :: jT) { frames := 2, cells := 0, slots := 0, locals := 47 } (va_Pc [.ref (ad 0), .int x1, .int x2] (jInv (jMain D ad cy) S)) (jQ (jMain D ad cy) (some (.int z.1), z.2)) 0 0 (yA (jMain D ad cy)) :=
  jMet hO (by decide +kernel) rfl (Nat.le_of_ble_eq_true rfl) (fun X _ C Q => p_X11_reading_e C Q x1 x2 S hz)
set_option maxRecDepth 100000 in
theorem p_X12_canBe_83 {X : jX} {D : va_G} {ad : Nat → Nat} {cy : Nat → ClassId} (C : jC X (jMain D ad cy) RX12 cX12_canBe (some .boolean) 5 2 48) {z : Int32 × jS} (Q : jRet X (jMain D ad cy) (some (.int z.1), z.2)) {g : Int32 → Int32 → Int32 → jS → Option (Int32 × jS)} (hg : ∀ (x1 : Int32) (x2 : Int32) (x3 : Int32) (S : jS), g x1 x2 x3 S = some z → jJ X (jMain D ad cy) 4 [(0, .ref (ad 41)), (1, .int x1), (2, .int x2), (3, .int x3)] [] S) {k90 : Int32 → jS → Option (Int32 × jS)} (hk90 : ∀ (x2 : Int32) (S : jS), k90 x2 S = some z → jJ X (jMain D ad cy) 90 [(2, .int x2)] [] S) (a0 : Int32) (x1 : Int32) (x3 : Int32) (S : jS) (hE : f_X12_canBe_83  g k90 a0 x1 x3 S = some z) : jJ X (jMain D ad cy) 83 [(0, .ref (ad 41)), (1, .int x1), (3, .int x3)] [.int a0] S := by
  unfold f_X12_canBe_83 at hE
  refine j_istore_n (i := 2) (lv' := [(2, .int a0), (0, .ref (ad 41)), (1, .int x1), (3, .int x3)]) C dX12_canBe_83 rfl (by decide) rfl ?_
  refine j_iinc (v := (x3 + 1)) (lv' := [(3, .int (x3 + 1)), (2, .int a0), (0, .ref (ad 41)), (1, .int x1)]) C dX12_canBe_84 3 rfl (congrArg (fun w => x3 + w) jc_ic_1) (by decide) rfl ?_
  refine j_goto (tgt := 4) C dX12_canBe_87 rfl ?_
  refine j_sub [2, 3, 1, 0] rfl ?_
  exact hg x1 a0 (x3 + 1) S hE
set_option maxRecDepth 100000 in
theorem p_X12_canBe_75 {X : jX} {D : va_G} {ad : Nat → Nat} {cy : Nat → ClassId} (C : jC X (jMain D ad cy) RX12 cX12_canBe (some .boolean) 5 2 48) {z : Int32 × jS} (Q : jRet X (jMain D ad cy) (some (.int z.1), z.2)) {g : Int32 → Int32 → Int32 → jS → Option (Int32 × jS)} (hg : ∀ (x1 : Int32) (x2 : Int32) (x3 : Int32) (S : jS), g x1 x2 x3 S = some z → jJ X (jMain D ad cy) 4 [(0, .ref (ad 41)), (1, .int x1), (2, .int x2), (3, .int x3)] [] S) {k90 : Int32 → jS → Option (Int32 × jS)} (hk90 : ∀ (x2 : Int32) (S : jS), k90 x2 S = some z → jJ X (jMain D ad cy) 90 [(2, .int x2)] [] S) (a0 : Int32) (a1 : Int32) (x1 : Int32) (x3 : Int32) (S : jS) (hE : f_X12_canBe_75  g k90 a0 a1 x1 x3 S = some z) : jJ X (jMain D ad cy) 75 [(0, .ref (ad 41)), (1, .int x1), (3, .int x3)] [.int a0, .int a1] S := by
  unfold f_X12_canBe_75 at hE
  refine j_icmp_ne (tgt := 82) C dX12_canBe_75 rfl hE (fun hE => ?_) (fun hE => ?_)
  · refine j_iconst (v := 0) C dX12_canBe_82 jc_ic_0 ?_
    exact p_X12_canBe_83 C Q hg hk90 0 x1 x3 S hE
  · refine j_iconst (v := 1) C dX12_canBe_78 jc_ic_1 ?_
    refine j_goto (tgt := 83) C dX12_canBe_79 rfl ?_
    exact p_X12_canBe_83 C Q hg hk90 1 x1 x3 S hE
set_option maxRecDepth 100000 in
theorem p_X12_canBe_4 {X : jX} {D : va_G} {ad : Nat → Nat} {cy : Nat → ClassId} (C : jC X (jMain D ad cy) RX12 cX12_canBe (some .boolean) 5 2 48) {z : Int32 × jS} (Q : jRet X (jMain D ad cy) (some (.int z.1), z.2)) {g : Int32 → Int32 → Int32 → jS → Option (Int32 × jS)} (hg : ∀ (x1 : Int32) (x2 : Int32) (x3 : Int32) (S : jS), g x1 x2 x3 S = some z → jJ X (jMain D ad cy) 4 [(0, .ref (ad 41)), (1, .int x1), (2, .int x2), (3, .int x3)] [] S) {k90 : Int32 → jS → Option (Int32 × jS)} (hk90 : ∀ (x2 : Int32) (S : jS), k90 x2 S = some z → jJ X (jMain D ad cy) 90 [(2, .int x2)] [] S) (x1 : Int32) (x2 : Int32) (x3 : Int32) (S : jS) (hE : f_X12_canBe_4  g k90 x1 x2 x3 S = some z) : jJ X (jMain D ad cy) 4 [(0, .ref (ad 41)), (1, .int x1), (2, .int x2), (3, .int x3)] [] S := by
  unfold f_X12_canBe_4 at hE
  refine j_iload_n C dX12_canBe_4 3 rfl ?_
  refine j_aload_n C dX12_canBe_5 0 rfl ?_
  refine g_X12_7_41 C dX12_canBe_6 ?_
  refine j_bipush (v := 10) C dX12_canBe_9 jc_bp_10 ?_
  refine l_42 C dX12_canBe_11 hE (fun v1 hE => ?_)
  refine j_icmp_ge (tgt := 90) C dX12_canBe_12 rfl hE (fun hE => ?_) (fun hE => ?_)
  · refine j_sub [2] rfl ?_
    exact hk90 x2 S hE
  · refine j_iload_n C dX12_canBe_15 2 rfl ?_
    refine j_if_eq (tgt := 90) C dX12_canBe_16 rfl hE (fun hE => ?_) (fun hE => ?_)
    · refine j_sub [2] rfl ?_
      exact hk90 x2 S hE
    · refine j_bipush (v := 13) C dX12_canBe_19 jc_bp_13 ?_
      refine j_iconst (v := 4) C dX12_canBe_21 jc_ic_4 ?_
      refine j_iload_n C dX12_canBe_22 3 rfl ?_
      refine j_imul C dX12_canBe_23 ?_
      refine j_iadd C dX12_canBe_24 ?_
      refine j_istore (lv' := [(4, .int (13 + (4 * x3))), (0, .ref (ad 41)), (1, .int x1), (2, .int x2), (3, .int x3)]) C dX12_canBe_25 (by decide) rfl ?_
      refine j_aload_n C dX12_canBe_27 1 rfl ?_
      refine j_aload_n C dX12_canBe_28 1 rfl ?_
      refine g_X12_7_41 C dX12_canBe_29 ?_
      refine j_iload C dX12_canBe_32 0 rfl ?_
      refine j_iconst (v := 2) C dX12_canBe_34 jc_ic_2 ?_
      refine j_iadd C dX12_canBe_35 ?_
      refine l_42 C dX12_canBe_36 hE (fun v2 hE => ?_)
      refine j_aload_n C dX12_canBe_37 1 rfl ?_
      refine g_X12_7_41 C dX12_canBe_38 ?_
      refine j_iload C dX12_canBe_41 0 rfl ?_
      refine j_iconst (v := 3) C dX12_canBe_43 jc_ic_3 ?_
      refine j_iadd C dX12_canBe_44 ?_
      refine l_42 C dX12_canBe_45 hE (fun v3 hE => ?_)
      refine j_iload_n C dX12_canBe_46 2 rfl ?_
      refine j_aload_n C dX12_canBe_47 1 rfl ?_
      refine g_X12_7_41 C dX12_canBe_48 ?_
      refine j_iload C dX12_canBe_51 0 rfl ?_
      refine l_42 C dX12_canBe_53 hE (fun v4 hE => ?_)
      refine k_X12_80_X12_mayBy C dX12_canBe_54 hE (Nat.le_of_ble_eq_true rfl) (Nat.le_of_ble_eq_true rfl) (Nat.le_of_ble_eq_true rfl) (fun v6 S5 hE => ?_)
      refine j_aload_n C dX12_canBe_57 1 rfl ?_
      refine g_X12_7_41 C dX12_canBe_58 ?_
      refine j_iload C dX12_canBe_61 0 rfl ?_
      refine j_iconst (v := 1) C dX12_canBe_63 jc_ic_1 ?_
      refine j_iadd C dX12_canBe_64 ?_
      refine l_42 C dX12_canBe_65 hE (fun v7 hE => ?_)
      refine j_iconst (v := 1) C dX12_canBe_66 jc_ic_1 ?_
      refine j_icmp_ne (tgt := 74) C dX12_canBe_67 rfl hE (fun hE => ?_) (fun hE => ?_)
      · refine j_iconst (v := 0) C dX12_canBe_74 jc_ic_0 ?_
        refine j_sub [1, 2, 4] rfl ?_
        exact p_X12_canBe_75 C Q hg hk90 0 v6 x1 x3 S5 hE
      · refine j_iconst (v := 1) C dX12_canBe_70 jc_ic_1 ?_
        refine j_goto (tgt := 75) C dX12_canBe_71 rfl ?_
        refine j_sub [1, 2, 4] rfl ?_
        exact p_X12_canBe_75 C Q hg hk90 1 v6 x1 x3 S5 hE
theorem q_X12_canBe_4 {X : jX} {D : va_G} {ad : Nat → Nat} {cy : Nat → ClassId} (C : jC X (jMain D ad cy) RX12 cX12_canBe (some .boolean) 5 2 48) {z : Int32 × jS} (Q : jRet X (jMain D ad cy) (some (.int z.1), z.2)) {k90 : Int32 → jS → Option (Int32 × jS)} (hk90 : ∀ (x2 : Int32) (S : jS), k90 x2 S = some z → jJ X (jMain D ad cy) 90 [(2, .int x2)] [] S) (x1 : Int32) (x2 : Int32) (x3 : Int32) (S : jS) (hE : lp_X12_canBe_4  k90 x1 x2 x3 S = some z) : jJ X (jMain D ad cy) 4 [(0, .ref (ad 41)), (1, .int x1), (2, .int x2), (3, .int x3)] [] S :=
  jloop_P (α := Int32 × Int32 × Int32 × jS) (B := (fun g q => f_X12_canBe_4  (fun x1 x2 x3 S => g (x1, x2, x3, S)) k90 q.1 q.2.1 q.2.2.1 q.2.2.2)) (P := fun q => jJ X (jMain D ad cy) 4 [(0, .ref (ad 41)), (1, .int q.1), (2, .int q.2.1), (3, .int q.2.2.1)] [] q.2.2.2) (fun g q hg h => p_X12_canBe_4 C Q (g := fun x1 x2 x3 S => g (x1, x2, x3, S)) (fun x1 x2 x3 S h => hg (x1, x2, x3, S) h) hk90 q.1 q.2.1 q.2.2.1 q.2.2.2 h) jN (x1, x2, x3, S) hE
set_option maxRecDepth 100000 in
theorem p_X12_canBe_90 {X : jX} {D : va_G} {ad : Nat → Nat} {cy : Nat → ClassId} (C : jC X (jMain D ad cy) RX12 cX12_canBe (some .boolean) 5 2 48) {z : Int32 × jS} (Q : jRet X (jMain D ad cy) (some (.int z.1), z.2))  (x2 : Int32) (S : jS) (hE : f_X12_canBe_90   x2 S = some z) : jJ X (jMain D ad cy) 90 [(2, .int x2)] [] S := by
  unfold f_X12_canBe_90 at hE
  refine j_iload_n C dX12_canBe_90 0 rfl ?_
  exact j_zret C Q dX12_canBe_91 hE
set_option maxRecDepth 100000 in
theorem p_X12_canBe_e {X : jX} {D : va_G} {ad : Nat → Nat} {cy : Nat → ClassId} (C : jC X (jMain D ad cy) RX12 cX12_canBe (some .boolean) 5 2 48) {z : Int32 × jS} (Q : jRet X (jMain D ad cy) (some (.int z.1), z.2))  (x1 : Int32) (S : jS) (hE : f_X12_canBe_e   x1 S = some z) : jJ X (jMain D ad cy) 0 [(0, .ref (ad 41)), (1, .int x1)] [] S := by
  unfold f_X12_canBe_e at hE
  refine j_iconst (v := 1) C dX12_canBe_0 jc_ic_1 ?_
  refine j_istore_n (i := 2) (lv' := [(2, .int 1), (0, .ref (ad 41)), (1, .int x1)]) C dX12_canBe_1 rfl (by decide) rfl ?_
  refine j_iconst (v := 0) C dX12_canBe_2 jc_ic_0 ?_
  refine j_istore_n (i := 3) (lv' := [(3, .int 0), (2, .int 1), (0, .ref (ad 41)), (1, .int x1)]) C dX12_canBe_3 rfl (by decide) rfl ?_
  refine j_sub [2, 3, 1, 0] rfl ?_
  exact q_X12_canBe_4 C Q (p_X12_canBe_90 C Q ) x1 1 0 S hE
theorem c_X12_canBe {l : Launch} {D : va_G} {ad : Nat → Nat} {cy : Nat → ClassId} (hO : jOk (jMain D ad cy)) (x1 : Int32) (S : jS) {z : Int32 × jS} (hz : f_X12_canBe x1 S = some z) : Met l yX12_canBe (.code yX12_canBe cX12_canBe 5 (some .boolean) :: jT) { frames := 2, cells := 0, slots := 0, locals := 48 } (va_Pc [.ref (ad 41), .int x1] (jInv (jMain D ad cy) S)) (jQ (jMain D ad cy) (some (.int z.1), z.2)) 0 0 (yA (jMain D ad cy)) :=
  jMet hO (by decide +kernel) rfl (Nat.le_of_ble_eq_true rfl) (fun X _ C Q => p_X12_canBe_e C Q x1 S hz)
theorem k_X12_195_X12_canBe {X : jX} {D : va_G} {ad : Nat → Nat} {cy : Nat → ClassId} {cc : ByteArray} {ret : Option FieldType} {nL fr lo pc : Nat} {lv : List (Nat × Value)} {st : List Value} {S : jS} {β : Type} {z : β} (C : jC X (jMain D ad cy) RX12 cc ret nL fr lo) {a0 : Int32} {E : Int32 → jS → Option β} (d : decode cc pc = .ok (.invokevirtual 195, 3)) (hE : jcl (f_X12_canBe a0 S) E = some z) (hfr : 3 ≤ fr) (hlo : 72 ≤ lo) (hst : (st.map fun v => v.category).sum ≤ 8) (K : ∀ (v : Int32) (S1 : jS), E v S1 = some z → jJ X (jMain D ad cy) (pc + 3) lv (.int v :: st) S1) : jJ X (jMain D ad cy) pc lv (.int a0 :: .ref (ad 41) :: st) S := by
  obtain ⟨v, h1, h2⟩ := jcl_some hE
  exact j_callV (k := 41) (ci := 12) (T := TX12) (N := 25) (n := 1) (As := [.int a0]) C (c_X12_canBe C.2.2.2.2.2.2.1 a0 S h1) tw_1162 tw_1164 tw_57 tw_81 tw_1165 (by decide +kernel) rfl (by decide : 41 < 56) rfl rfl hfr hlo hst rfl d (K _ _ h2)
set_option maxRecDepth 100000 in
theorem p_X12_layCan_77 {X : jX} {D : va_G} {ad : Nat → Nat} {cy : Nat → ClassId} (C : jC X (jMain D ad cy) RX12 cX12_layCan (none) 2 3 72) {z : jS} (Q : jRet X (jMain D ad cy) (none, z)) {g : Int32 → jS → Option (jS)} (hg : ∀ (x1 : Int32) (S : jS), g x1 S = some z → jJ X (jMain D ad cy) 12 [(0, .ref (ad 41)), (1, .int x1)] [] S) {k87 : jS → Option (jS)} (hk87 : ∀  (S : jS), k87  S = some z → jJ X (jMain D ad cy) 87 [] [] S) (a0 : Int32) (a1 : Int32) (x1 : Int32) (S : jS) (hE : f_X12_layCan_77  g k87 a0 a1 x1 S = some z) : jJ X (jMain D ad cy) 77 [(0, .ref (ad 41)), (1, .int x1)] [.int a0, .int a1, .ref (ad 41)] S := by
  unfold f_X12_layCan_77 at hE
  refine j_iadd C dX12_layCan_77 ?_
  refine p_X12_189_41 C dX12_layCan_78 hE (fun S1 hE => ?_)
  refine j_iinc (v := (x1 + 1)) (lv' := [(1, .int (x1 + 1)), (0, .ref (ad 41))]) C dX12_layCan_81 1 rfl (congrArg (fun w => x1 + w) jc_ic_1) (by decide) rfl ?_
  refine j_goto (tgt := 12) C dX12_layCan_84 rfl ?_
  refine j_sub [1, 0] rfl ?_
  exact hg (x1 + 1) S1 hE
set_option maxRecDepth 100000 in
theorem p_X12_layCan_55 {X : jX} {D : va_G} {ad : Nat → Nat} {cy : Nat → ClassId} (C : jC X (jMain D ad cy) RX12 cX12_layCan (none) 2 3 72) {z : jS} (Q : jRet X (jMain D ad cy) (none, z)) {g : Int32 → jS → Option (jS)} (hg : ∀ (x1 : Int32) (S : jS), g x1 S = some z → jJ X (jMain D ad cy) 12 [(0, .ref (ad 41)), (1, .int x1)] [] S) {k87 : jS → Option (jS)} (hk87 : ∀  (S : jS), k87  S = some z → jJ X (jMain D ad cy) 87 [] [] S) (a0 : Int32) (x1 : Int32) (S : jS) (hE : f_X12_layCan_55  g k87 a0 x1 S = some z) : jJ X (jMain D ad cy) 55 [(0, .ref (ad 41)), (1, .int x1)] [.int a0, .ref (ad 41)] S := by
  unfold f_X12_layCan_55 at hE
  refine p_X12_192_41 C dX12_layCan_55 hE (fun S1 hE => ?_)
  refine j_aload_n C dX12_layCan_58 0 rfl ?_
  refine j_dup C dX12_layCan_59 rfl ?_
  refine g_X12_189_41 C dX12_layCan_60 ?_
  refine j_aload_n C dX12_layCan_63 0 rfl ?_
  refine g_X12_45_41 C dX12_layCan_64 ?_
  refine j_iload_n C dX12_layCan_67 1 rfl ?_
  refine l_52 C dX12_layCan_68 hE (fun v2 hE => ?_)
  refine j_if_eq (tgt := 76) C dX12_layCan_69 rfl hE (fun hE => ?_) (fun hE => ?_)
  · refine j_iconst (v := 0) C dX12_layCan_76 jc_ic_0 ?_
    exact p_X12_layCan_77 C Q hg hk87 0 (S1.1 41 15) x1 S1 hE
  · refine j_iconst (v := 1) C dX12_layCan_72 jc_ic_1 ?_
    refine j_goto (tgt := 77) C dX12_layCan_73 rfl ?_
    exact p_X12_layCan_77 C Q hg hk87 1 (S1.1 41 15) x1 S1 hE
set_option maxRecDepth 100000 in
theorem p_X12_layCan_51 {X : jX} {D : va_G} {ad : Nat → Nat} {cy : Nat → ClassId} (C : jC X (jMain D ad cy) RX12 cX12_layCan (none) 2 3 72) {z : jS} (Q : jRet X (jMain D ad cy) (none, z)) {g : Int32 → jS → Option (jS)} (hg : ∀ (x1 : Int32) (S : jS), g x1 S = some z → jJ X (jMain D ad cy) 12 [(0, .ref (ad 41)), (1, .int x1)] [] S) {k87 : jS → Option (jS)} (hk87 : ∀  (S : jS), k87  S = some z → jJ X (jMain D ad cy) 87 [] [] S) (x1 : Int32) (S : jS) (hE : f_X12_layCan_51  g k87 x1 S = some z) : jJ X (jMain D ad cy) 51 [(0, .ref (ad 41)), (1, .int x1)] [.ref (ad 41)] S := by
  unfold f_X12_layCan_51 at hE
  refine j_aload_n C dX12_layCan_51 0 rfl ?_
  refine g_X12_192_41 C dX12_layCan_52 ?_
  exact p_X12_layCan_55 C Q hg hk87 (S.1 41 16) x1 S hE
set_option maxRecDepth 100000 in
theorem p_X12_layCan_12 {X : jX} {D : va_G} {ad : Nat → Nat} {cy : Nat → ClassId} (C : jC X (jMain D ad cy) RX12 cX12_layCan (none) 2 3 72) {z : jS} (Q : jRet X (jMain D ad cy) (none, z)) {g : Int32 → jS → Option (jS)} (hg : ∀ (x1 : Int32) (S : jS), g x1 S = some z → jJ X (jMain D ad cy) 12 [(0, .ref (ad 41)), (1, .int x1)] [] S) {k87 : jS → Option (jS)} (hk87 : ∀  (S : jS), k87  S = some z → jJ X (jMain D ad cy) 87 [] [] S) (x1 : Int32) (S : jS) (hE : f_X12_layCan_12  g k87 x1 S = some z) : jJ X (jMain D ad cy) 12 [(0, .ref (ad 41)), (1, .int x1)] [] S := by
  unfold f_X12_layCan_12 at hE
  refine j_iload_n C dX12_layCan_12 1 rfl ?_
  refine j_sipush (v := 300) C dX12_layCan_13 jc_sp_300 ?_
  refine j_icmp_gt (tgt := 87) C dX12_layCan_16 rfl hE (fun hE => ?_) (fun hE => ?_)
  · refine j_sub [] rfl ?_
    exact hk87  S hE
  · refine j_aload_n C dX12_layCan_19 0 rfl ?_
    refine g_X12_45_41 C dX12_layCan_20 ?_
    refine j_iload_n C dX12_layCan_23 1 rfl ?_
    refine j_aload_n C dX12_layCan_24 0 rfl ?_
    refine j_iload_n C dX12_layCan_25 1 rfl ?_
    refine k_X12_195_X12_canBe C dX12_layCan_26 hE (Nat.le_of_ble_eq_true rfl) (Nat.le_of_ble_eq_true rfl) (Nat.le_of_ble_eq_true rfl) (fun v2 S1 hE => ?_)
    refine s_52 C dX12_layCan_29 hE (fun S3 hE => ?_)
    refine j_aload_n C dX12_layCan_30 0 rfl ?_
    refine j_aload_n C dX12_layCan_31 0 rfl ?_
    refine g_X12_45_41 C dX12_layCan_32 ?_
    refine j_iload_n C dX12_layCan_35 1 rfl ?_
    refine l_52 C dX12_layCan_36 hE (fun v4 hE => ?_)
    refine j_if_eq (tgt := 51) C dX12_layCan_37 rfl hE (fun hE => ?_) (fun hE => ?_)
    · exact p_X12_layCan_51 C Q hg hk87 x1 S3 hE
    · refine j_aload_n C dX12_layCan_40 0 rfl ?_
      refine g_X12_189_41 C dX12_layCan_41 ?_
      refine j_if_ne (tgt := 51) C dX12_layCan_44 rfl hE (fun hE => ?_) (fun hE => ?_)
      · exact p_X12_layCan_51 C Q hg hk87 x1 S3 hE
      · refine j_iload_n C dX12_layCan_47 1 rfl ?_
        refine j_goto (tgt := 55) C dX12_layCan_48 rfl ?_
        exact p_X12_layCan_55 C Q hg hk87 x1 x1 S3 hE
theorem q_X12_layCan_12 {X : jX} {D : va_G} {ad : Nat → Nat} {cy : Nat → ClassId} (C : jC X (jMain D ad cy) RX12 cX12_layCan (none) 2 3 72) {z : jS} (Q : jRet X (jMain D ad cy) (none, z)) {k87 : jS → Option (jS)} (hk87 : ∀  (S : jS), k87  S = some z → jJ X (jMain D ad cy) 87 [] [] S) (x1 : Int32) (S : jS) (hE : lp_X12_layCan_12  k87 x1 S = some z) : jJ X (jMain D ad cy) 12 [(0, .ref (ad 41)), (1, .int x1)] [] S :=
  jloop_P (α := Int32 × jS) (B := (fun g q => f_X12_layCan_12  (fun x1 S => g (x1, S)) k87 q.1 q.2)) (P := fun q => jJ X (jMain D ad cy) 12 [(0, .ref (ad 41)), (1, .int q.1)] [] q.2) (fun g q hg h => p_X12_layCan_12 C Q (g := fun x1 S => g (x1, S)) (fun x1 S h => hg (x1, S) h) hk87 q.1 q.2 h) jN (x1, S) hE
set_option maxRecDepth 100000 in
theorem p_X12_layCan_87 {X : jX} {D : va_G} {ad : Nat → Nat} {cy : Nat → ClassId} (C : jC X (jMain D ad cy) RX12 cX12_layCan (none) 2 3 72) {z : jS} (Q : jRet X (jMain D ad cy) (none, z))   (S : jS) (hE : f_X12_layCan_87    S = some z) : jJ X (jMain D ad cy) 87 [] [] S := by
  unfold f_X12_layCan_87 at hE
  exact j_vret C Q dX12_layCan_87 hE
set_option maxRecDepth 100000 in
theorem p_X12_layCan_e {X : jX} {D : va_G} {ad : Nat → Nat} {cy : Nat → ClassId} (C : jC X (jMain D ad cy) RX12 cX12_layCan (none) 2 3 72) {z : jS} (Q : jRet X (jMain D ad cy) (none, z))   (S : jS) (hE : f_X12_layCan_e    S = some z) : jJ X (jMain D ad cy) 0 [(0, .ref (ad 41))] [] S := by
  unfold f_X12_layCan_e at hE
  refine j_aload_n C dX12_layCan_0 0 rfl ?_
  refine j_iconst (v := 0) C dX12_layCan_1 jc_ic_0 ?_
  refine p_X12_189_41 C dX12_layCan_2 hE (fun S1 hE => ?_)
  refine j_aload_n C dX12_layCan_5 0 rfl ?_
  refine j_iconst (v := (-1)) C dX12_layCan_6 jc_ic_m1 ?_
  refine p_X12_192_41 C dX12_layCan_7 hE (fun S2 hE => ?_)
  refine j_iconst (v := 1) C dX12_layCan_10 jc_ic_1 ?_
  refine j_istore_n (i := 1) (lv' := [(1, .int 1), (0, .ref (ad 41))]) C dX12_layCan_11 rfl (by decide) rfl ?_
  refine j_sub [1, 0] rfl ?_
  exact q_X12_layCan_12 C Q (p_X12_layCan_87 C Q ) 1 S2 hE
theorem c_X12_layCan {l : Launch} {D : va_G} {ad : Nat → Nat} {cy : Nat → ClassId} (hO : jOk (jMain D ad cy))  (S : jS) {z : jS} (hz : f_X12_layCan  S = some z) : Met l yX12_layCan (.code yX12_layCan cX12_layCan 2 (none) :: jT) { frames := 3, cells := 0, slots := 0, locals := 72 } (va_Pc [.ref (ad 41)] (jInv (jMain D ad cy) S)) (jQ (jMain D ad cy) (none, z)) 0 0 (yA (jMain D ad cy)) :=
  jMet hO (by decide +kernel) rfl (Nat.le_of_ble_eq_true rfl) (fun X _ C Q => p_X12_layCan_e C Q  S hz)
theorem k_X12_198_X12_layCan {X : jX} {D : va_G} {ad : Nat → Nat} {cy : Nat → ClassId} {cc : ByteArray} {ret : Option FieldType} {nL fr lo pc : Nat} {lv : List (Nat × Value)} {st : List Value} {S : jS} {β : Type} {z : β} (C : jC X (jMain D ad cy) RX12 cc ret nL fr lo)  {E : jS → Option β} (d : decode cc pc = .ok (.invokevirtual 198, 3)) (hE : jcv (f_X12_layCan  S) E = some z) (hfr : 4 ≤ fr) (hlo : 93 ≤ lo) (hst : (st.map fun v => v.category).sum ≤ 8) (K : ∀ S1, E S1 = some z → jJ X (jMain D ad cy) (pc + 3) lv st S1) : jJ X (jMain D ad cy) pc lv (.ref (ad 41) :: st) S := by
  obtain ⟨v, h1, h2⟩ := jcv_some hE
  exact j_callV (k := 41) (ci := 12) (T := TX12) (N := 25) (n := 0) (As := []) C (c_X12_layCan C.2.2.2.2.2.2.1  S h1) tw_1158 tw_1160 tw_56 tw_81 tw_1161 (by decide +kernel) rfl (by decide : 41 < 56) rfl rfl hfr hlo hst rfl d (K _ h2)
set_option maxRecDepth 100000 in
theorem p_X12_who_36 {X : jX} {D : va_G} {ad : Nat → Nat} {cy : Nat → ClassId} (C : jC X (jMain D ad cy) RX12 cX12_who (some .int) 2 4 93) {z : Int32 × jS} (Q : jRet X (jMain D ad cy) (some (.int z.1), z.2))  (a0 : Int32) (S : jS) (hE : f_X12_who_36   a0 S = some z) : jJ X (jMain D ad cy) 36 [] [.int a0] S := by
  unfold f_X12_who_36 at hE
  exact j_iret C Q dX12_who_36 hE
set_option maxRecDepth 100000 in
theorem p_X12_who_e {X : jX} {D : va_G} {ad : Nat → Nat} {cy : Nat → ClassId} (C : jC X (jMain D ad cy) RX12 cX12_who (some .int) 2 4 93) {z : Int32 × jS} (Q : jRet X (jMain D ad cy) (some (.int z.1), z.2))  (x1 : Int32) (S : jS) (hE : f_X12_who_e   x1 S = some z) : jJ X (jMain D ad cy) 0 [(0, .ref (ad 41)), (1, .int x1)] [] S := by
  unfold f_X12_who_e at hE
  refine j_iload_n C dX12_who_0 1 rfl ?_
  refine j_i2l C dX12_who_1 ?_
  refine j_lconst (v := 0) C dX12_who_2 jc_lc_0 ?_
  refine j_lconst (v := 1) C dX12_who_3 jc_lc_1 ?_
  refine k_X12_59_X12_in C dX12_who_4 hE (Nat.le_of_ble_eq_true rfl) (Nat.le_of_ble_eq_true rfl) (Nat.le_of_ble_eq_true rfl) (fun v2 S1 hE => ?_)
  refine j_if_ne (tgt := 17) C dX12_who_7 rfl hE (fun hE => ?_) (fun hE => ?_)
  · refine j_aload_n C dX12_who_17 0 rfl ?_
    refine k_X12_198_X12_layCan C dX12_who_18 hE (Nat.le_of_ble_eq_true rfl) (Nat.le_of_ble_eq_true rfl) (Nat.le_of_ble_eq_true rfl) (fun S3 hE => ?_)
    refine j_iload_n C dX12_who_21 1 rfl ?_
    refine j_if_ne (tgt := 32) C dX12_who_22 rfl hE (fun hE => ?_) (fun hE => ?_)
    · refine j_aload_n C dX12_who_32 0 rfl ?_
      refine g_X12_192_41 C dX12_who_33 ?_
      refine j_sub [] rfl ?_
      exact p_X12_who_36 C Q  (S3.1 41 16) S3 hE
    · refine j_aload_n C dX12_who_25 0 rfl ?_
      refine g_X12_189_41 C dX12_who_26 ?_
      refine j_goto (tgt := 36) C dX12_who_29 rfl ?_
      refine j_sub [] rfl ?_
      exact p_X12_who_36 C Q  (S3.1 41 15) S3 hE
  · refine j_aload_n C dX12_who_10 0 rfl ?_
    refine j_bipush (v := (-10)) C dX12_who_11 jc_bp_m10 ?_
    refine k_X12_87_X12_bad C dX12_who_13 hE (Nat.le_of_ble_eq_true rfl) (Nat.le_of_ble_eq_true rfl) (Nat.le_of_ble_eq_true rfl) (fun v5 S4 hE => ?_)
    exact j_iret C Q dX12_who_16 hE
theorem c_X12_who {l : Launch} {D : va_G} {ad : Nat → Nat} {cy : Nat → ClassId} (hO : jOk (jMain D ad cy)) (x1 : Int32) (S : jS) {z : Int32 × jS} (hz : f_X12_who x1 S = some z) : Met l yX12_who (.code yX12_who cX12_who 2 (some .int) :: jT) { frames := 4, cells := 0, slots := 0, locals := 93 } (va_Pc [.ref (ad 41), .int x1] (jInv (jMain D ad cy) S)) (jQ (jMain D ad cy) (some (.int z.1), z.2)) 0 0 (yA (jMain D ad cy)) :=
  jMet hO (by decide +kernel) rfl (Nat.le_of_ble_eq_true rfl) (fun X _ C Q => p_X12_who_e C Q x1 S hz)
set_option maxRecDepth 100000 in
theorem p_X11_agreesWithReadings_2 {X : jX} {D : va_G} {ad : Nat → Nat} {cy : Nat → ClassId} (C : jC X (jMain D ad cy) RX11 cX11_agreesWithReadings (some .boolean) 4 4 95) {z : Int32 × jS} (Q : jRet X (jMain D ad cy) (some (.int z.1), z.2)) {g : Int32 → Int32 → jS → Option (Int32 × jS)} (hg : ∀ (x1 : Int32) (x2 : Int32) (S : jS), g x1 x2 S = some z → jJ X (jMain D ad cy) 2 [(0, .ref (ad 0)), (1, .int x1), (2, .int x2)] [] S) {k72 : jS → Option (Int32 × jS)} (hk72 : ∀  (S : jS), k72  S = some z → jJ X (jMain D ad cy) 72 [] [] S) {k80 : jS → Option (Int32 × jS)} (hk80 : ∀  (S : jS), k80  S = some z → jJ X (jMain D ad cy) 80 [] [] S) (x1 : Int32) (x2 : Int32) (S : jS) (hE : f_X11_agreesWithReadings_2  g k72 k80 x1 x2 S = some z) : jJ X (jMain D ad cy) 2 [(0, .ref (ad 0)), (1, .int x1), (2, .int x2)] [] S := by
  unfold f_X11_agreesWithReadings_2 at hE
  refine j_iload_n C dX11_agreesWithReadings_2 2 rfl ?_
  refine j_aload_n C dX11_agreesWithReadings_3 0 rfl ?_
  refine g_X11_44_0 C dX11_agreesWithReadings_4 ?_
  refine g_X11_221_21 C dX11_agreesWithReadings_7 ?_
  refine j_icmp_ge (tgt := 80) C dX11_agreesWithReadings_10 rfl hE (fun hE => ?_) (fun hE => ?_)
  · refine j_sub [] rfl ?_
    exact hk80  S hE
  · refine j_iload_n C dX11_agreesWithReadings_13 2 rfl ?_
    refine j_bipush (v := 8) C dX11_agreesWithReadings_14 jc_bp_8 ?_
    refine j_icmp_ge (tgt := 80) C dX11_agreesWithReadings_16 rfl hE (fun hE => ?_) (fun hE => ?_)
    · refine j_sub [] rfl ?_
      exact hk80  S hE
    · refine j_aload_n C dX11_agreesWithReadings_19 0 rfl ?_
      refine g_X11_21_0 C dX11_agreesWithReadings_20 ?_
      refine j_aload_n C dX11_agreesWithReadings_23 0 rfl ?_
      refine g_X11_44_0 C dX11_agreesWithReadings_24 ?_
      refine g_X11_293_21 C dX11_agreesWithReadings_27 ?_
      refine j_iconst (v := 3) C dX11_agreesWithReadings_30 jc_ic_3 ?_
      refine j_iload_n C dX11_agreesWithReadings_31 2 rfl ?_
      refine j_imul C dX11_agreesWithReadings_32 ?_
      refine j_iconst (v := 2) C dX11_agreesWithReadings_33 jc_ic_2 ?_
      refine j_iadd C dX11_agreesWithReadings_34 ?_
      refine l_23 C dX11_agreesWithReadings_35 hE (fun v1 hE => ?_)
      refine j_iload_n C dX11_agreesWithReadings_36 1 rfl ?_
      refine j_aload_n C dX11_agreesWithReadings_37 0 rfl ?_
      refine g_X11_44_0 C dX11_agreesWithReadings_38 ?_
      refine g_X11_293_21 C dX11_agreesWithReadings_41 ?_
      refine j_iconst (v := 3) C dX11_agreesWithReadings_44 jc_ic_3 ?_
      refine j_iload_n C dX11_agreesWithReadings_45 2 rfl ?_
      refine j_imul C dX11_agreesWithReadings_46 ?_
      refine l_23 C dX11_agreesWithReadings_47 hE (fun v2 hE => ?_)
      refine k_X11_156_X2_allows C dX11_agreesWithReadings_48 hE (Nat.le_of_ble_eq_true rfl) (Nat.le_of_ble_eq_true rfl) (Nat.le_of_ble_eq_true rfl) (fun v4 S3 hE => ?_)
      refine j_istore_n (i := 3) (lv' := [(3, .int v4), (0, .ref (ad 0)), (1, .int x1), (2, .int x2)]) C dX11_agreesWithReadings_51 rfl (by decide) rfl ?_
      refine j_iload_n C dX11_agreesWithReadings_52 0 rfl ?_
      refine k_X11_139_X11_bit C dX11_agreesWithReadings_53 hE (Nat.le_of_ble_eq_true rfl) (Nat.le_of_ble_eq_true rfl) (Nat.le_of_ble_eq_true rfl) (fun v6 S5 hE => ?_)
      refine j_aload_n C dX11_agreesWithReadings_56 1 rfl ?_
      refine g_X11_44_0 C dX11_agreesWithReadings_57 ?_
      refine g_X11_293_21 C dX11_agreesWithReadings_60 ?_
      refine j_iconst (v := 3) C dX11_agreesWithReadings_63 jc_ic_3 ?_
      refine j_iload_n C dX11_agreesWithReadings_64 3 rfl ?_
      refine j_imul C dX11_agreesWithReadings_65 ?_
      refine j_iconst (v := 1) C dX11_agreesWithReadings_66 jc_ic_1 ?_
      refine j_iadd C dX11_agreesWithReadings_67 ?_
      refine l_23 C dX11_agreesWithReadings_68 hE (fun v7 hE => ?_)
      refine j_icmp_eq (tgt := 74) C dX11_agreesWithReadings_69 rfl hE (fun hE => ?_) (fun hE => ?_)
      · refine j_iinc (v := (x2 + 1)) (lv' := [(2, .int (x2 + 1)), (3, .int v4), (0, .ref (ad 0)), (1, .int x1)]) C dX11_agreesWithReadings_74 3 rfl (congrArg (fun w => x2 + w) jc_ic_1) (by decide) rfl ?_
        refine j_goto (tgt := 2) C dX11_agreesWithReadings_77 rfl ?_
        refine j_sub [2, 3, 0] rfl ?_
        exact hg x1 (x2 + 1) S5 hE
      · refine j_sub [] rfl ?_
        exact hk72  S5 hE
theorem q_X11_agreesWithReadings_2 {X : jX} {D : va_G} {ad : Nat → Nat} {cy : Nat → ClassId} (C : jC X (jMain D ad cy) RX11 cX11_agreesWithReadings (some .boolean) 4 4 95) {z : Int32 × jS} (Q : jRet X (jMain D ad cy) (some (.int z.1), z.2)) {k72 : jS → Option (Int32 × jS)} (hk72 : ∀  (S : jS), k72  S = some z → jJ X (jMain D ad cy) 72 [] [] S) {k80 : jS → Option (Int32 × jS)} (hk80 : ∀  (S : jS), k80  S = some z → jJ X (jMain D ad cy) 80 [] [] S) (x1 : Int32) (x2 : Int32) (S : jS) (hE : lp_X11_agreesWithReadings_2  k72 k80 x1 x2 S = some z) : jJ X (jMain D ad cy) 2 [(0, .ref (ad 0)), (1, .int x1), (2, .int x2)] [] S :=
  jloop_P (α := Int32 × Int32 × jS) (B := (fun g q => f_X11_agreesWithReadings_2  (fun x1 x2 S => g (x1, x2, S)) k72 k80 q.1 q.2.1 q.2.2)) (P := fun q => jJ X (jMain D ad cy) 2 [(0, .ref (ad 0)), (1, .int q.1), (2, .int q.2.1)] [] q.2.2) (fun g q hg h => p_X11_agreesWithReadings_2 C Q (g := fun x1 x2 S => g (x1, x2, S)) (fun x1 x2 S h => hg (x1, x2, S) h) hk72 hk80 q.1 q.2.1 q.2.2 h) jN (x1, x2, S) hE
set_option maxRecDepth 100000 in
theorem p_X11_agreesWithReadings_72 {X : jX} {D : va_G} {ad : Nat → Nat} {cy : Nat → ClassId} (C : jC X (jMain D ad cy) RX11 cX11_agreesWithReadings (some .boolean) 4 4 95) {z : Int32 × jS} (Q : jRet X (jMain D ad cy) (some (.int z.1), z.2))   (S : jS) (hE : f_X11_agreesWithReadings_72    S = some z) : jJ X (jMain D ad cy) 72 [] [] S := by
  unfold f_X11_agreesWithReadings_72 at hE
  refine j_iconst (v := 0) C dX11_agreesWithReadings_72 jc_ic_0 ?_
  exact j_zret C Q dX11_agreesWithReadings_73 hE
set_option maxRecDepth 100000 in
theorem p_X11_agreesWithReadings_80 {X : jX} {D : va_G} {ad : Nat → Nat} {cy : Nat → ClassId} (C : jC X (jMain D ad cy) RX11 cX11_agreesWithReadings (some .boolean) 4 4 95) {z : Int32 × jS} (Q : jRet X (jMain D ad cy) (some (.int z.1), z.2))   (S : jS) (hE : f_X11_agreesWithReadings_80    S = some z) : jJ X (jMain D ad cy) 80 [] [] S := by
  unfold f_X11_agreesWithReadings_80 at hE
  refine j_iconst (v := 1) C dX11_agreesWithReadings_80 jc_ic_1 ?_
  exact j_zret C Q dX11_agreesWithReadings_81 hE
set_option maxRecDepth 100000 in
theorem p_X11_agreesWithReadings_e {X : jX} {D : va_G} {ad : Nat → Nat} {cy : Nat → ClassId} (C : jC X (jMain D ad cy) RX11 cX11_agreesWithReadings (some .boolean) 4 4 95) {z : Int32 × jS} (Q : jRet X (jMain D ad cy) (some (.int z.1), z.2))  (x1 : Int32) (S : jS) (hE : f_X11_agreesWithReadings_e   x1 S = some z) : jJ X (jMain D ad cy) 0 [(0, .ref (ad 0)), (1, .int x1)] [] S := by
  unfold f_X11_agreesWithReadings_e at hE
  refine j_iconst (v := 0) C dX11_agreesWithReadings_0 jc_ic_0 ?_
  refine j_istore_n (i := 2) (lv' := [(2, .int 0), (0, .ref (ad 0)), (1, .int x1)]) C dX11_agreesWithReadings_1 rfl (by decide) rfl ?_
  refine j_sub [1, 2, 0] rfl ?_
  exact q_X11_agreesWithReadings_2 C Q (p_X11_agreesWithReadings_72 C Q ) (p_X11_agreesWithReadings_80 C Q ) x1 0 S hE
theorem c_X11_agreesWithReadings {l : Launch} {D : va_G} {ad : Nat → Nat} {cy : Nat → ClassId} (hO : jOk (jMain D ad cy)) (x1 : Int32) (S : jS) {z : Int32 × jS} (hz : f_X11_agreesWithReadings x1 S = some z) : Met l yX11_agreesWithReadings (.code yX11_agreesWithReadings cX11_agreesWithReadings 4 (some .boolean) :: jT) { frames := 4, cells := 0, slots := 0, locals := 95 } (va_Pc [.ref (ad 0), .int x1] (jInv (jMain D ad cy) S)) (jQ (jMain D ad cy) (some (.int z.1), z.2)) 0 0 (yA (jMain D ad cy)) :=
  jMet hO (by decide +kernel) rfl (Nat.le_of_ble_eq_true rfl) (fun X _ C Q => p_X11_agreesWithReadings_e C Q x1 S hz)
theorem k_X11_309_X11_agreesWithReadings {X : jX} {D : va_G} {ad : Nat → Nat} {cy : Nat → ClassId} {cc : ByteArray} {ret : Option FieldType} {nL fr lo pc : Nat} {lv : List (Nat × Value)} {st : List Value} {S : jS} {β : Type} {z : β} (C : jC X (jMain D ad cy) RX11 cc ret nL fr lo) {a0 : Int32} {E : Int32 → jS → Option β} (d : decode cc pc = .ok (.invokevirtual 309, 3)) (hE : jcl (f_X11_agreesWithReadings a0 S) E = some z) (hfr : 5 ≤ fr) (hlo : 118 ≤ lo) (hst : (st.map fun v => v.category).sum ≤ 8) (K : ∀ (v : Int32) (S1 : jS), E v S1 = some z → jJ X (jMain D ad cy) (pc + 3) lv (.int v :: st) S1) : jJ X (jMain D ad cy) pc lv (.int a0 :: .ref (ad 0) :: st) S := by
  obtain ⟨v, h1, h2⟩ := jcl_some hE
  exact j_callV (k := 0) (ci := 11) (T := TX11) (N := 16) (n := 1) (As := [.int a0]) C (c_X11_agreesWithReadings C.2.2.2.2.2.2.1 a0 S h1) tw_762 tw_764 tw_25 tw_69 tw_765 (by decide +kernel) rfl (by decide : 0 < 56) rfl rfl hfr hlo hst rfl d (K _ _ h2)
set_option maxRecDepth 100000 in
theorem p_X11_gatherFits_38 {X : jX} {D : va_G} {ad : Nat → Nat} {cy : Nat → ClassId} (C : jC X (jMain D ad cy) RX11 cX11_gatherFits (some .int) 3 5 118) {z : Int32 × jS} (Q : jRet X (jMain D ad cy) (some (.int z.1), z.2)) {g : Int32 → Int32 → jS → Option (Int32 × jS)} (hg : ∀ (x1 : Int32) (x2 : Int32) (S : jS), g x1 x2 S = some z → jJ X (jMain D ad cy) 4 [(0, .ref (ad 0)), (1, .int x1), (2, .int x2)] [] S) {k44 : Int32 → jS → Option (Int32 × jS)} (hk44 : ∀ (x1 : Int32) (S : jS), k44 x1 S = some z → jJ X (jMain D ad cy) 44 [(1, .int x1)] [] S) (x1 : Int32) (x2 : Int32) (S : jS) (hE : f_X11_gatherFits_38  g k44 x1 x2 S = some z) : jJ X (jMain D ad cy) 38 [(0, .ref (ad 0)), (1, .int x1), (2, .int x2)] [] S := by
  unfold f_X11_gatherFits_38 at hE
  refine j_iinc (v := (x2 + 1)) (lv' := [(2, .int (x2 + 1)), (0, .ref (ad 0)), (1, .int x1)]) C dX11_gatherFits_38 2 rfl (congrArg (fun w => x2 + w) jc_ic_1) (by decide) rfl ?_
  refine j_goto (tgt := 4) C dX11_gatherFits_41 rfl ?_
  refine j_sub [1, 2, 0] rfl ?_
  exact hg x1 (x2 + 1) S hE
set_option maxRecDepth 100000 in
theorem p_X11_gatherFits_4 {X : jX} {D : va_G} {ad : Nat → Nat} {cy : Nat → ClassId} (C : jC X (jMain D ad cy) RX11 cX11_gatherFits (some .int) 3 5 118) {z : Int32 × jS} (Q : jRet X (jMain D ad cy) (some (.int z.1), z.2)) {g : Int32 → Int32 → jS → Option (Int32 × jS)} (hg : ∀ (x1 : Int32) (x2 : Int32) (S : jS), g x1 x2 S = some z → jJ X (jMain D ad cy) 4 [(0, .ref (ad 0)), (1, .int x1), (2, .int x2)] [] S) {k44 : Int32 → jS → Option (Int32 × jS)} (hk44 : ∀ (x1 : Int32) (S : jS), k44 x1 S = some z → jJ X (jMain D ad cy) 44 [(1, .int x1)] [] S) (x1 : Int32) (x2 : Int32) (S : jS) (hE : f_X11_gatherFits_4  g k44 x1 x2 S = some z) : jJ X (jMain D ad cy) 4 [(0, .ref (ad 0)), (1, .int x1), (2, .int x2)] [] S := by
  unfold f_X11_gatherFits_4 at hE
  refine j_iload_n C dX11_gatherFits_4 2 rfl ?_
  refine j_sipush (v := 300) C dX11_gatherFits_5 jc_sp_300 ?_
  refine j_icmp_gt (tgt := 44) C dX11_gatherFits_8 rfl hE (fun hE => ?_) (fun hE => ?_)
  · refine j_sub [1] rfl ?_
    exact hk44 x1 S hE
  · refine j_aload_n C dX11_gatherFits_11 0 rfl ?_
    refine j_iload_n C dX11_gatherFits_12 2 rfl ?_
    refine k_X11_309_X11_agreesWithReadings C dX11_gatherFits_13 hE (Nat.le_of_ble_eq_true rfl) (Nat.le_of_ble_eq_true rfl) (Nat.le_of_ble_eq_true rfl) (fun v2 S1 hE => ?_)
    refine j_if_eq (tgt := 38) C dX11_gatherFits_16 rfl hE (fun hE => ?_) (fun hE => ?_)
    · exact p_X11_gatherFits_38 C Q hg hk44 x1 x2 S1 hE
    · refine j_iload_n C dX11_gatherFits_19 1 rfl ?_
      refine j_aload_n C dX11_gatherFits_20 0 rfl ?_
      refine g_X11_60_0 C dX11_gatherFits_21 ?_
      refine n_39 C dX11_gatherFits_24 ?_
      refine j_icmp_ge (tgt := 38) C dX11_gatherFits_25 rfl hE (fun hE => ?_) (fun hE => ?_)
      · exact p_X11_gatherFits_38 C Q hg hk44 x1 x2 S1 hE
      · refine j_aload_n C dX11_gatherFits_28 0 rfl ?_
        refine g_X11_60_0 C dX11_gatherFits_29 ?_
        refine j_iload_n C dX11_gatherFits_32 1 rfl ?_
        refine j_iload_n C dX11_gatherFits_33 2 rfl ?_
        refine s_39 C dX11_gatherFits_34 hE (fun S3 hE => ?_)
        refine j_iinc (v := (x1 + 1)) (lv' := [(1, .int (x1 + 1)), (0, .ref (ad 0)), (2, .int x2)]) C dX11_gatherFits_35 1 rfl (congrArg (fun w => x1 + w) jc_ic_1) (by decide) rfl ?_
        refine j_sub [1, 0, 2] rfl ?_
        exact p_X11_gatherFits_38 C Q hg hk44 (x1 + 1) x2 S3 hE
theorem q_X11_gatherFits_4 {X : jX} {D : va_G} {ad : Nat → Nat} {cy : Nat → ClassId} (C : jC X (jMain D ad cy) RX11 cX11_gatherFits (some .int) 3 5 118) {z : Int32 × jS} (Q : jRet X (jMain D ad cy) (some (.int z.1), z.2)) {k44 : Int32 → jS → Option (Int32 × jS)} (hk44 : ∀ (x1 : Int32) (S : jS), k44 x1 S = some z → jJ X (jMain D ad cy) 44 [(1, .int x1)] [] S) (x1 : Int32) (x2 : Int32) (S : jS) (hE : lp_X11_gatherFits_4  k44 x1 x2 S = some z) : jJ X (jMain D ad cy) 4 [(0, .ref (ad 0)), (1, .int x1), (2, .int x2)] [] S :=
  jloop_P (α := Int32 × Int32 × jS) (B := (fun g q => f_X11_gatherFits_4  (fun x1 x2 S => g (x1, x2, S)) k44 q.1 q.2.1 q.2.2)) (P := fun q => jJ X (jMain D ad cy) 4 [(0, .ref (ad 0)), (1, .int q.1), (2, .int q.2.1)] [] q.2.2) (fun g q hg h => p_X11_gatherFits_4 C Q (g := fun x1 x2 S => g (x1, x2, S)) (fun x1 x2 S h => hg (x1, x2, S) h) hk44 q.1 q.2.1 q.2.2 h) jN (x1, x2, S) hE
set_option maxRecDepth 100000 in
theorem p_X11_gatherFits_44 {X : jX} {D : va_G} {ad : Nat → Nat} {cy : Nat → ClassId} (C : jC X (jMain D ad cy) RX11 cX11_gatherFits (some .int) 3 5 118) {z : Int32 × jS} (Q : jRet X (jMain D ad cy) (some (.int z.1), z.2))  (x1 : Int32) (S : jS) (hE : f_X11_gatherFits_44   x1 S = some z) : jJ X (jMain D ad cy) 44 [(1, .int x1)] [] S := by
  unfold f_X11_gatherFits_44 at hE
  refine j_iload_n C dX11_gatherFits_44 0 rfl ?_
  exact j_iret C Q dX11_gatherFits_45 hE
set_option maxRecDepth 100000 in
theorem p_X11_gatherFits_e {X : jX} {D : va_G} {ad : Nat → Nat} {cy : Nat → ClassId} (C : jC X (jMain D ad cy) RX11 cX11_gatherFits (some .int) 3 5 118) {z : Int32 × jS} (Q : jRet X (jMain D ad cy) (some (.int z.1), z.2))   (S : jS) (hE : f_X11_gatherFits_e    S = some z) : jJ X (jMain D ad cy) 0 [(0, .ref (ad 0))] [] S := by
  unfold f_X11_gatherFits_e at hE
  refine j_iconst (v := 0) C dX11_gatherFits_0 jc_ic_0 ?_
  refine j_istore_n (i := 1) (lv' := [(1, .int 0), (0, .ref (ad 0))]) C dX11_gatherFits_1 rfl (by decide) rfl ?_
  refine j_iconst (v := 1) C dX11_gatherFits_2 jc_ic_1 ?_
  refine j_istore_n (i := 2) (lv' := [(2, .int 1), (1, .int 0), (0, .ref (ad 0))]) C dX11_gatherFits_3 rfl (by decide) rfl ?_
  refine j_sub [2, 1, 0] rfl ?_
  exact q_X11_gatherFits_4 C Q (p_X11_gatherFits_44 C Q ) 0 1 S hE
theorem c_X11_gatherFits {l : Launch} {D : va_G} {ad : Nat → Nat} {cy : Nat → ClassId} (hO : jOk (jMain D ad cy))  (S : jS) {z : Int32 × jS} (hz : f_X11_gatherFits  S = some z) : Met l yX11_gatherFits (.code yX11_gatherFits cX11_gatherFits 3 (some .int) :: jT) { frames := 5, cells := 0, slots := 0, locals := 118 } (va_Pc [.ref (ad 0)] (jInv (jMain D ad cy) S)) (jQ (jMain D ad cy) (some (.int z.1), z.2)) 0 0 (yA (jMain D ad cy)) :=
  jMet hO (by decide +kernel) rfl (Nat.le_of_ble_eq_true rfl) (fun X _ C Q => p_X11_gatherFits_e C Q  S hz)
theorem k_X11_228_X11_gatherFits {X : jX} {D : va_G} {ad : Nat → Nat} {cy : Nat → ClassId} {cc : ByteArray} {ret : Option FieldType} {nL fr lo pc : Nat} {lv : List (Nat × Value)} {st : List Value} {S : jS} {β : Type} {z : β} (C : jC X (jMain D ad cy) RX11 cc ret nL fr lo)  {E : Int32 → jS → Option β} (d : decode cc pc = .ok (.invokevirtual 228, 3)) (hE : jcl (f_X11_gatherFits  S) E = some z) (hfr : 6 ≤ fr) (hlo : 140 ≤ lo) (hst : (st.map fun v => v.category).sum ≤ 8) (K : ∀ (v : Int32) (S1 : jS), E v S1 = some z → jJ X (jMain D ad cy) (pc + 3) lv (.int v :: st) S1) : jJ X (jMain D ad cy) pc lv (.ref (ad 0) :: st) S := by
  obtain ⟨v, h1, h2⟩ := jcl_some hE
  exact j_callV (k := 0) (ci := 11) (T := TX11) (N := 16) (n := 0) (As := []) C (c_X11_gatherFits C.2.2.2.2.2.2.1  S h1) tw_758 tw_760 tw_24 tw_69 tw_761 (by decide +kernel) rfl (by decide : 0 < 56) rfl rfl hfr hlo hst rfl d (K _ _ h2)
set_option maxRecDepth 100000 in
theorem p_X11_who_37 {X : jX} {D : va_G} {ad : Nat → Nat} {cy : Nat → ClassId} (C : jC X (jMain D ad cy) RX11 cX11_who (some .int) 3 6 140) {z : Int32 × jS} (Q : jRet X (jMain D ad cy) (some (.int z.1), z.2))  (a0 : Int32) (S : jS) (hE : f_X11_who_37   a0 S = some z) : jJ X (jMain D ad cy) 37 [] [.int a0] S := by
  unfold f_X11_who_37 at hE
  exact j_iret C Q dX11_who_37 hE
set_option maxRecDepth 100000 in
theorem p_X11_who_e {X : jX} {D : va_G} {ad : Nat → Nat} {cy : Nat → ClassId} (C : jC X (jMain D ad cy) RX11 cX11_who (some .int) 3 6 140) {z : Int32 × jS} (Q : jRet X (jMain D ad cy) (some (.int z.1), z.2))  (x1 : Int32) (S : jS) (hE : f_X11_who_e   x1 S = some z) : jJ X (jMain D ad cy) 0 [(0, .ref (ad 0)), (1, .int x1)] [] S := by
  unfold f_X11_who_e at hE
  refine j_iload_n C dX11_who_0 1 rfl ?_
  refine k_X11_160_X11_isBit C dX11_who_1 hE (Nat.le_of_ble_eq_true rfl) (Nat.le_of_ble_eq_true rfl) (Nat.le_of_ble_eq_true rfl) (fun v2 S1 hE => ?_)
  refine j_if_ne (tgt := 12) C dX11_who_4 rfl hE (fun hE => ?_) (fun hE => ?_)
  · refine j_aload_n C dX11_who_12 0 rfl ?_
    refine k_X11_228_X11_gatherFits C dX11_who_13 hE (Nat.le_of_ble_eq_true rfl) (Nat.le_of_ble_eq_true rfl) (Nat.le_of_ble_eq_true rfl) (fun v4 S3 hE => ?_)
    refine j_istore_n (i := 2) (lv' := [(2, .int v4), (0, .ref (ad 0)), (1, .int x1)]) C dX11_who_16 rfl (by decide) rfl ?_
    refine j_iload_n C dX11_who_17 2 rfl ?_
    refine j_if_ne (tgt := 23) C dX11_who_18 rfl hE (fun hE => ?_) (fun hE => ?_)
    · refine j_iload_n C dX11_who_23 0 rfl ?_
      refine j_if_ne (tgt := 31) C dX11_who_24 rfl hE (fun hE => ?_) (fun hE => ?_)
      · refine j_aload_n C dX11_who_31 1 rfl ?_
        refine g_X11_60_0 C dX11_who_32 ?_
        refine j_iconst (v := 0) C dX11_who_35 jc_ic_0 ?_
        refine l_39 C dX11_who_36 hE (fun v5 hE => ?_)
        refine j_sub [] rfl ?_
        exact p_X11_who_37 C Q  v5 S3 hE
      · refine j_iconst (v := (-1)) C dX11_who_27 jc_ic_m1 ?_
        refine j_goto (tgt := 37) C dX11_who_28 rfl ?_
        refine j_sub [] rfl ?_
        exact p_X11_who_37 C Q  (-1) S3 hE
    · refine j_iload_n C dX11_who_21 0 rfl ?_
      exact j_iret C Q dX11_who_22 hE
  · refine j_aload_n C dX11_who_7 0 rfl ?_
    refine k_X11_171_X11_refuseBadApart C dX11_who_8 hE (Nat.le_of_ble_eq_true rfl) (Nat.le_of_ble_eq_true rfl) (Nat.le_of_ble_eq_true rfl) (fun v7 S6 hE => ?_)
    exact j_iret C Q dX11_who_11 hE
theorem c_X11_who {l : Launch} {D : va_G} {ad : Nat → Nat} {cy : Nat → ClassId} (hO : jOk (jMain D ad cy)) (x1 : Int32) (S : jS) {z : Int32 × jS} (hz : f_X11_who x1 S = some z) : Met l yX11_who (.code yX11_who cX11_who 3 (some .int) :: jT) { frames := 6, cells := 0, slots := 0, locals := 140 } (va_Pc [.ref (ad 0), .int x1] (jInv (jMain D ad cy) S)) (jQ (jMain D ad cy) (some (.int z.1), z.2)) 0 0 (yA (jMain D ad cy)) :=
  jMet hO (by decide +kernel) rfl (Nat.le_of_ble_eq_true rfl) (fun X _ C Q => p_X11_who_e C Q x1 S hz)
set_option maxRecDepth 100000 in
theorem p_X12_greaterPart_35 {X : jX} {D : va_G} {ad : Nat → Nat} {cy : Nat → ClassId} (C : jC X (jMain D ad cy) RX12 cX12_greaterPart (some .int) 4 3 70) {z : Int32 × jS} (Q : jRet X (jMain D ad cy) (some (.int z.1), z.2)) {g : Int32 → Int32 → Int32 → jS → Option (Int32 × jS)} (hg : ∀ (x1 : Int32) (x2 : Int32) (x3 : Int32) (S : jS), g x1 x2 x3 S = some z → jJ X (jMain D ad cy) 4 [(0, .ref (ad 41)), (1, .int x1), (2, .int x2), (3, .int x3)] [] S) {k43 : Int32 → jS → Option (Int32 × jS)} (hk43 : ∀ (x2 : Int32) (S : jS), k43 x2 S = some z → jJ X (jMain D ad cy) 43 [(0, .ref (ad 41)), (2, .int x2)] [] S) (a0 : Int32) (a1 : Int32) (x1 : Int32) (x3 : Int32) (S : jS) (hE : f_X12_greaterPart_35  g k43 a0 a1 x1 x3 S = some z) : jJ X (jMain D ad cy) 35 [(0, .ref (ad 41)), (1, .int x1), (3, .int x3)] [.int a0, .int a1] S := by
  unfold f_X12_greaterPart_35 at hE
  refine j_iadd C dX12_greaterPart_35 ?_
  refine j_istore_n (i := 2) (lv' := [(2, .int (a1 + a0)), (0, .ref (ad 41)), (1, .int x1), (3, .int x3)]) C dX12_greaterPart_36 rfl (by decide) rfl ?_
  refine j_iinc (v := (x3 + 1)) (lv' := [(3, .int (x3 + 1)), (2, .int (a1 + a0)), (0, .ref (ad 41)), (1, .int x1)]) C dX12_greaterPart_37 3 rfl (congrArg (fun w => x3 + w) jc_ic_1) (by decide) rfl ?_
  refine j_goto (tgt := 4) C dX12_greaterPart_40 rfl ?_
  refine j_sub [2, 3, 1, 0] rfl ?_
  exact hg x1 (a1 + a0) (x3 + 1) S hE
set_option maxRecDepth 100000 in
theorem p_X12_greaterPart_34 {X : jX} {D : va_G} {ad : Nat → Nat} {cy : Nat → ClassId} (C : jC X (jMain D ad cy) RX12 cX12_greaterPart (some .int) 4 3 70) {z : Int32 × jS} (Q : jRet X (jMain D ad cy) (some (.int z.1), z.2)) {g : Int32 → Int32 → Int32 → jS → Option (Int32 × jS)} (hg : ∀ (x1 : Int32) (x2 : Int32) (x3 : Int32) (S : jS), g x1 x2 x3 S = some z → jJ X (jMain D ad cy) 4 [(0, .ref (ad 41)), (1, .int x1), (2, .int x2), (3, .int x3)] [] S) {k43 : Int32 → jS → Option (Int32 × jS)} (hk43 : ∀ (x2 : Int32) (S : jS), k43 x2 S = some z → jJ X (jMain D ad cy) 43 [(0, .ref (ad 41)), (2, .int x2)] [] S) (a0 : Int32) (x1 : Int32) (x3 : Int32) (S : jS) (hE : f_X12_greaterPart_34  g k43 a0 x1 x3 S = some z) : jJ X (jMain D ad cy) 34 [(0, .ref (ad 41)), (1, .int x1), (3, .int x3)] [.int a0] S := by
  unfold f_X12_greaterPart_34 at hE
  refine j_iconst (v := 0) C dX12_greaterPart_34 jc_ic_0 ?_
  exact p_X12_greaterPart_35 C Q hg hk43 0 a0 x1 x3 S hE
set_option maxRecDepth 100000 in
theorem p_X12_greaterPart_4 {X : jX} {D : va_G} {ad : Nat → Nat} {cy : Nat → ClassId} (C : jC X (jMain D ad cy) RX12 cX12_greaterPart (some .int) 4 3 70) {z : Int32 × jS} (Q : jRet X (jMain D ad cy) (some (.int z.1), z.2)) {g : Int32 → Int32 → Int32 → jS → Option (Int32 × jS)} (hg : ∀ (x1 : Int32) (x2 : Int32) (x3 : Int32) (S : jS), g x1 x2 x3 S = some z → jJ X (jMain D ad cy) 4 [(0, .ref (ad 41)), (1, .int x1), (2, .int x2), (3, .int x3)] [] S) {k43 : Int32 → jS → Option (Int32 × jS)} (hk43 : ∀ (x2 : Int32) (S : jS), k43 x2 S = some z → jJ X (jMain D ad cy) 43 [(0, .ref (ad 41)), (2, .int x2)] [] S) (x1 : Int32) (x2 : Int32) (x3 : Int32) (S : jS) (hE : f_X12_greaterPart_4  g k43 x1 x2 x3 S = some z) : jJ X (jMain D ad cy) 4 [(0, .ref (ad 41)), (1, .int x1), (2, .int x2), (3, .int x3)] [] S := by
  unfold f_X12_greaterPart_4 at hE
  refine j_iload_n C dX12_greaterPart_4 3 rfl ?_
  refine j_sipush (v := 300) C dX12_greaterPart_5 jc_sp_300 ?_
  refine j_icmp_gt (tgt := 43) C dX12_greaterPart_8 rfl hE (fun hE => ?_) (fun hE => ?_)
  · refine j_sub [0, 2] rfl ?_
    exact hk43 x2 S hE
  · refine j_iload_n C dX12_greaterPart_11 2 rfl ?_
    refine j_aload_n C dX12_greaterPart_12 0 rfl ?_
    refine g_X12_45_41 C dX12_greaterPart_13 ?_
    refine j_iload_n C dX12_greaterPart_16 3 rfl ?_
    refine l_52 C dX12_greaterPart_17 hE (fun v1 hE => ?_)
    refine j_if_eq (tgt := 34) C dX12_greaterPart_18 rfl hE (fun hE => ?_) (fun hE => ?_)
    · refine j_sub [0, 1, 3] rfl ?_
      exact p_X12_greaterPart_34 C Q hg hk43 x2 x1 x3 S hE
    · refine j_aload_n C dX12_greaterPart_21 0 rfl ?_
      refine j_iload_n C dX12_greaterPart_22 3 rfl ?_
      refine j_iload_n C dX12_greaterPart_23 1 rfl ?_
      refine k_X12_117_X12_mayNow C dX12_greaterPart_24 hE (Nat.le_of_ble_eq_true rfl) (Nat.le_of_ble_eq_true rfl) (Nat.le_of_ble_eq_true rfl) (fun v3 S2 hE => ?_)
      refine j_if_eq (tgt := 34) C dX12_greaterPart_27 rfl hE (fun hE => ?_) (fun hE => ?_)
      · refine j_sub [0, 1, 3] rfl ?_
        exact p_X12_greaterPart_34 C Q hg hk43 x2 x1 x3 S2 hE
      · refine j_iconst (v := 1) C dX12_greaterPart_30 jc_ic_1 ?_
        refine j_goto (tgt := 35) C dX12_greaterPart_31 rfl ?_
        refine j_sub [0, 1, 3] rfl ?_
        exact p_X12_greaterPart_35 C Q hg hk43 1 x2 x1 x3 S2 hE
theorem q_X12_greaterPart_4 {X : jX} {D : va_G} {ad : Nat → Nat} {cy : Nat → ClassId} (C : jC X (jMain D ad cy) RX12 cX12_greaterPart (some .int) 4 3 70) {z : Int32 × jS} (Q : jRet X (jMain D ad cy) (some (.int z.1), z.2)) {k43 : Int32 → jS → Option (Int32 × jS)} (hk43 : ∀ (x2 : Int32) (S : jS), k43 x2 S = some z → jJ X (jMain D ad cy) 43 [(0, .ref (ad 41)), (2, .int x2)] [] S) (x1 : Int32) (x2 : Int32) (x3 : Int32) (S : jS) (hE : lp_X12_greaterPart_4  k43 x1 x2 x3 S = some z) : jJ X (jMain D ad cy) 4 [(0, .ref (ad 41)), (1, .int x1), (2, .int x2), (3, .int x3)] [] S :=
  jloop_P (α := Int32 × Int32 × Int32 × jS) (B := (fun g q => f_X12_greaterPart_4  (fun x1 x2 x3 S => g (x1, x2, x3, S)) k43 q.1 q.2.1 q.2.2.1 q.2.2.2)) (P := fun q => jJ X (jMain D ad cy) 4 [(0, .ref (ad 41)), (1, .int q.1), (2, .int q.2.1), (3, .int q.2.2.1)] [] q.2.2.2) (fun g q hg h => p_X12_greaterPart_4 C Q (g := fun x1 x2 x3 S => g (x1, x2, x3, S)) (fun x1 x2 x3 S h => hg (x1, x2, x3, S) h) hk43 q.1 q.2.1 q.2.2.1 q.2.2.2 h) jN (x1, x2, x3, S) hE
set_option maxRecDepth 100000 in
theorem p_X12_greaterPart_63 {X : jX} {D : va_G} {ad : Nat → Nat} {cy : Nat → ClassId} (C : jC X (jMain D ad cy) RX12 cX12_greaterPart (some .int) 4 3 70) {z : Int32 × jS} (Q : jRet X (jMain D ad cy) (some (.int z.1), z.2))  (a0 : Int32) (S : jS) (hE : f_X12_greaterPart_63   a0 S = some z) : jJ X (jMain D ad cy) 63 [] [.int a0] S := by
  unfold f_X12_greaterPart_63 at hE
  exact j_iret C Q dX12_greaterPart_63 hE
set_option maxRecDepth 100000 in
theorem p_X12_greaterPart_43 {X : jX} {D : va_G} {ad : Nat → Nat} {cy : Nat → ClassId} (C : jC X (jMain D ad cy) RX12 cX12_greaterPart (some .int) 4 3 70) {z : Int32 × jS} (Q : jRet X (jMain D ad cy) (some (.int z.1), z.2))  (x2 : Int32) (S : jS) (hE : f_X12_greaterPart_43   x2 S = some z) : jJ X (jMain D ad cy) 43 [(0, .ref (ad 41)), (2, .int x2)] [] S := by
  unfold f_X12_greaterPart_43 at hE
  refine j_iconst (v := 2) C dX12_greaterPart_43 jc_ic_2 ?_
  refine j_iload_n C dX12_greaterPart_44 1 rfl ?_
  refine j_imul C dX12_greaterPart_45 ?_
  refine j_aload_n C dX12_greaterPart_46 0 rfl ?_
  refine g_X12_189_41 C dX12_greaterPart_47 ?_
  refine j_icmp_le (tgt := 57) C dX12_greaterPart_50 rfl hE (fun hE => ?_) (fun hE => ?_)
  · refine j_aload_n C dX12_greaterPart_57 0 rfl ?_
    refine g_X12_189_41 C dX12_greaterPart_58 ?_
    refine j_iload_n C dX12_greaterPart_61 1 rfl ?_
    refine j_isub C dX12_greaterPart_62 ?_
    refine j_sub [] rfl ?_
    exact p_X12_greaterPart_63 C Q  ((S.1 41 15) - x2) S hE
  · refine j_iload_n C dX12_greaterPart_53 1 rfl ?_
    refine j_goto (tgt := 63) C dX12_greaterPart_54 rfl ?_
    refine j_sub [] rfl ?_
    exact p_X12_greaterPart_63 C Q  x2 S hE
set_option maxRecDepth 100000 in
theorem p_X12_greaterPart_e {X : jX} {D : va_G} {ad : Nat → Nat} {cy : Nat → ClassId} (C : jC X (jMain D ad cy) RX12 cX12_greaterPart (some .int) 4 3 70) {z : Int32 × jS} (Q : jRet X (jMain D ad cy) (some (.int z.1), z.2))  (x1 : Int32) (S : jS) (hE : f_X12_greaterPart_e   x1 S = some z) : jJ X (jMain D ad cy) 0 [(0, .ref (ad 41)), (1, .int x1)] [] S := by
  unfold f_X12_greaterPart_e at hE
  refine j_iconst (v := 0) C dX12_greaterPart_0 jc_ic_0 ?_
  refine j_istore_n (i := 2) (lv' := [(2, .int 0), (0, .ref (ad 41)), (1, .int x1)]) C dX12_greaterPart_1 rfl (by decide) rfl ?_
  refine j_iconst (v := 1) C dX12_greaterPart_2 jc_ic_1 ?_
  refine j_istore_n (i := 3) (lv' := [(3, .int 1), (2, .int 0), (0, .ref (ad 41)), (1, .int x1)]) C dX12_greaterPart_3 rfl (by decide) rfl ?_
  refine j_sub [2, 3, 1, 0] rfl ?_
  exact q_X12_greaterPart_4 C Q (p_X12_greaterPart_43 C Q ) x1 0 1 S hE
theorem c_X12_greaterPart {l : Launch} {D : va_G} {ad : Nat → Nat} {cy : Nat → ClassId} (hO : jOk (jMain D ad cy)) (x1 : Int32) (S : jS) {z : Int32 × jS} (hz : f_X12_greaterPart x1 S = some z) : Met l yX12_greaterPart (.code yX12_greaterPart cX12_greaterPart 4 (some .int) :: jT) { frames := 3, cells := 0, slots := 0, locals := 70 } (va_Pc [.ref (ad 41), .int x1] (jInv (jMain D ad cy) S)) (jQ (jMain D ad cy) (some (.int z.1), z.2)) 0 0 (yA (jMain D ad cy)) :=
  jMet hO (by decide +kernel) rfl (Nat.le_of_ble_eq_true rfl) (fun X _ C Q => p_X12_greaterPart_e C Q x1 S hz)
theorem k_X12_201_X12_greaterPart {X : jX} {D : va_G} {ad : Nat → Nat} {cy : Nat → ClassId} {cc : ByteArray} {ret : Option FieldType} {nL fr lo pc : Nat} {lv : List (Nat × Value)} {st : List Value} {S : jS} {β : Type} {z : β} (C : jC X (jMain D ad cy) RX12 cc ret nL fr lo) {a0 : Int32} {E : Int32 → jS → Option β} (d : decode cc pc = .ok (.invokevirtual 201, 3)) (hE : jcl (f_X12_greaterPart a0 S) E = some z) (hfr : 4 ≤ fr) (hlo : 93 ≤ lo) (hst : (st.map fun v => v.category).sum ≤ 8) (K : ∀ (v : Int32) (S1 : jS), E v S1 = some z → jJ X (jMain D ad cy) (pc + 3) lv (.int v :: st) S1) : jJ X (jMain D ad cy) pc lv (.int a0 :: .ref (ad 41) :: st) S := by
  obtain ⟨v, h1, h2⟩ := jcl_some hE
  exact j_callV (k := 41) (ci := 12) (T := TX12) (N := 25) (n := 1) (As := [.int a0]) C (c_X12_greaterPart C.2.2.2.2.2.2.1 a0 S h1) tw_1170 tw_1172 tw_58 tw_81 tw_1173 (by decide +kernel) rfl (by decide : 41 < 56) rfl rfl hfr hlo hst rfl d (K _ _ h2)
set_option maxRecDepth 100000 in
theorem p_X12_tryNext_56 {X : jX} {D : va_G} {ad : Nat → Nat} {cy : Nat → ClassId} (C : jC X (jMain D ad cy) RX12 cX12_tryNext (some .int) 5 4 93) {z : Int32 × jS} (Q : jRet X (jMain D ad cy) (some (.int z.1), z.2)) {g : Int32 → Int32 → Int32 → jS → Option (Int32 × jS)} (hg : ∀ (x1 : Int32) (x2 : Int32) (x3 : Int32) (S : jS), g x1 x2 x3 S = some z → jJ X (jMain D ad cy) 11 [(0, .ref (ad 41)), (1, .int x1), (2, .int x2), (3, .int x3)] [] S) {k63 : Int32 → jS → Option (Int32 × jS)} (hk63 : ∀ (x1 : Int32) (S : jS), k63 x1 S = some z → jJ X (jMain D ad cy) 63 [(1, .int x1)] [] S) (a0 : Int32) (x1 : Int32) (x3 : Int32) (S : jS) (hE : f_X12_tryNext_56  g k63 a0 x1 x3 S = some z) : jJ X (jMain D ad cy) 56 [(0, .ref (ad 41)), (1, .int x1), (3, .int x3)] [.int a0] S := by
  unfold f_X12_tryNext_56 at hE
  refine j_istore_n (i := 2) (lv' := [(2, .int a0), (0, .ref (ad 41)), (1, .int x1), (3, .int x3)]) C dX12_tryNext_56 rfl (by decide) rfl ?_
  refine j_iinc (v := (x3 + 1)) (lv' := [(3, .int (x3 + 1)), (2, .int a0), (0, .ref (ad 41)), (1, .int x1)]) C dX12_tryNext_57 3 rfl (congrArg (fun w => x3 + w) jc_ic_1) (by decide) rfl ?_
  refine j_goto (tgt := 11) C dX12_tryNext_60 rfl ?_
  refine j_sub [2, 3, 1, 0] rfl ?_
  exact hg x1 a0 (x3 + 1) S hE
set_option maxRecDepth 100000 in
theorem p_X12_tryNext_43 {X : jX} {D : va_G} {ad : Nat → Nat} {cy : Nat → ClassId} (C : jC X (jMain D ad cy) RX12 cX12_tryNext (some .int) 5 4 93) {z : Int32 × jS} (Q : jRet X (jMain D ad cy) (some (.int z.1), z.2)) {g : Int32 → Int32 → Int32 → jS → Option (Int32 × jS)} (hg : ∀ (x1 : Int32) (x2 : Int32) (x3 : Int32) (S : jS), g x1 x2 x3 S = some z → jJ X (jMain D ad cy) 11 [(0, .ref (ad 41)), (1, .int x1), (2, .int x2), (3, .int x3)] [] S) {k63 : Int32 → jS → Option (Int32 × jS)} (hk63 : ∀ (x1 : Int32) (S : jS), k63 x1 S = some z → jJ X (jMain D ad cy) 63 [(1, .int x1)] [] S) (a0 : Int32) (x2 : Int32) (x3 : Int32) (x4 : Int32) (S : jS) (hE : f_X12_tryNext_43  g k63 a0 x2 x3 x4 S = some z) : jJ X (jMain D ad cy) 43 [(0, .ref (ad 41)), (2, .int x2), (3, .int x3), (4, .int x4)] [.int a0] S := by
  unfold f_X12_tryNext_43 at hE
  refine j_istore_n (i := 1) (lv' := [(1, .int a0), (0, .ref (ad 41)), (2, .int x2), (3, .int x3), (4, .int x4)]) C dX12_tryNext_43 rfl (by decide) rfl ?_
  refine j_iload C dX12_tryNext_44 4 rfl ?_
  refine j_iload_n C dX12_tryNext_46 2 rfl ?_
  refine j_icmp_ge (tgt := 55) C dX12_tryNext_47 rfl hE (fun hE => ?_) (fun hE => ?_)
  · refine j_iload_n C dX12_tryNext_55 2 rfl ?_
    refine j_sub [1, 0, 3] rfl ?_
    exact p_X12_tryNext_56 C Q hg hk63 x2 a0 x3 S hE
  · refine j_iload C dX12_tryNext_50 4 rfl ?_
    refine j_goto (tgt := 56) C dX12_tryNext_52 rfl ?_
    refine j_sub [1, 0, 3] rfl ?_
    exact p_X12_tryNext_56 C Q hg hk63 x4 a0 x3 S hE
set_option maxRecDepth 100000 in
theorem p_X12_tryNext_11 {X : jX} {D : va_G} {ad : Nat → Nat} {cy : Nat → ClassId} (C : jC X (jMain D ad cy) RX12 cX12_tryNext (some .int) 5 4 93) {z : Int32 × jS} (Q : jRet X (jMain D ad cy) (some (.int z.1), z.2)) {g : Int32 → Int32 → Int32 → jS → Option (Int32 × jS)} (hg : ∀ (x1 : Int32) (x2 : Int32) (x3 : Int32) (S : jS), g x1 x2 x3 S = some z → jJ X (jMain D ad cy) 11 [(0, .ref (ad 41)), (1, .int x1), (2, .int x2), (3, .int x3)] [] S) {k63 : Int32 → jS → Option (Int32 × jS)} (hk63 : ∀ (x1 : Int32) (S : jS), k63 x1 S = some z → jJ X (jMain D ad cy) 63 [(1, .int x1)] [] S) (x1 : Int32) (x2 : Int32) (x3 : Int32) (S : jS) (hE : f_X12_tryNext_11  g k63 x1 x2 x3 S = some z) : jJ X (jMain D ad cy) 11 [(0, .ref (ad 41)), (1, .int x1), (2, .int x2), (3, .int x3)] [] S := by
  unfold f_X12_tryNext_11 at hE
  refine j_iload_n C dX12_tryNext_11 3 rfl ?_
  refine j_sipush (v := 300) C dX12_tryNext_12 jc_sp_300 ?_
  refine j_icmp_gt (tgt := 63) C dX12_tryNext_15 rfl hE (fun hE => ?_) (fun hE => ?_)
  · refine j_sub [1] rfl ?_
    exact hk63 x1 S hE
  · refine j_aload_n C dX12_tryNext_18 0 rfl ?_
    refine g_X12_189_41 C dX12_tryNext_19 ?_
    refine j_if_le (tgt := 63) C dX12_tryNext_22 rfl hE (fun hE => ?_) (fun hE => ?_)
    · refine j_sub [1] rfl ?_
      exact hk63 x1 S hE
    · refine j_aload_n C dX12_tryNext_25 0 rfl ?_
      refine j_iload_n C dX12_tryNext_26 3 rfl ?_
      refine k_X12_201_X12_greaterPart C dX12_tryNext_27 hE (Nat.le_of_ble_eq_true rfl) (Nat.le_of_ble_eq_true rfl) (Nat.le_of_ble_eq_true rfl) (fun v2 S1 hE => ?_)
      refine j_istore (lv' := [(4, .int v2), (0, .ref (ad 41)), (1, .int x1), (2, .int x2), (3, .int x3)]) C dX12_tryNext_30 (by decide) rfl ?_
      refine j_iload C dX12_tryNext_32 0 rfl ?_
      refine j_iload_n C dX12_tryNext_34 3 rfl ?_
      refine j_icmp_ge (tgt := 42) C dX12_tryNext_35 rfl hE (fun hE => ?_) (fun hE => ?_)
      · refine j_iload_n C dX12_tryNext_42 2 rfl ?_
        refine j_sub [1, 3, 4, 0] rfl ?_
        exact p_X12_tryNext_43 C Q hg hk63 x1 x2 x3 v2 S1 hE
      · refine j_iload_n C dX12_tryNext_38 4 rfl ?_
        refine j_goto (tgt := 43) C dX12_tryNext_39 rfl ?_
        refine j_sub [1, 3, 4, 0] rfl ?_
        exact p_X12_tryNext_43 C Q hg hk63 x3 x2 x3 v2 S1 hE
theorem q_X12_tryNext_11 {X : jX} {D : va_G} {ad : Nat → Nat} {cy : Nat → ClassId} (C : jC X (jMain D ad cy) RX12 cX12_tryNext (some .int) 5 4 93) {z : Int32 × jS} (Q : jRet X (jMain D ad cy) (some (.int z.1), z.2)) {k63 : Int32 → jS → Option (Int32 × jS)} (hk63 : ∀ (x1 : Int32) (S : jS), k63 x1 S = some z → jJ X (jMain D ad cy) 63 [(1, .int x1)] [] S) (x1 : Int32) (x2 : Int32) (x3 : Int32) (S : jS) (hE : lp_X12_tryNext_11  k63 x1 x2 x3 S = some z) : jJ X (jMain D ad cy) 11 [(0, .ref (ad 41)), (1, .int x1), (2, .int x2), (3, .int x3)] [] S :=
  jloop_P (α := Int32 × Int32 × Int32 × jS) (B := (fun g q => f_X12_tryNext_11  (fun x1 x2 x3 S => g (x1, x2, x3, S)) k63 q.1 q.2.1 q.2.2.1 q.2.2.2)) (P := fun q => jJ X (jMain D ad cy) 11 [(0, .ref (ad 41)), (1, .int q.1), (2, .int q.2.1), (3, .int q.2.2.1)] [] q.2.2.2) (fun g q hg h => p_X12_tryNext_11 C Q (g := fun x1 x2 x3 S => g (x1, x2, x3, S)) (fun x1 x2 x3 S h => hg (x1, x2, x3, S) h) hk63 q.1 q.2.1 q.2.2.1 q.2.2.2 h) jN (x1, x2, x3, S) hE
set_option maxRecDepth 100000 in
theorem p_X12_tryNext_63 {X : jX} {D : va_G} {ad : Nat → Nat} {cy : Nat → ClassId} (C : jC X (jMain D ad cy) RX12 cX12_tryNext (some .int) 5 4 93) {z : Int32 × jS} (Q : jRet X (jMain D ad cy) (some (.int z.1), z.2))  (x1 : Int32) (S : jS) (hE : f_X12_tryNext_63   x1 S = some z) : jJ X (jMain D ad cy) 63 [(1, .int x1)] [] S := by
  unfold f_X12_tryNext_63 at hE
  refine j_iload_n C dX12_tryNext_63 0 rfl ?_
  exact j_iret C Q dX12_tryNext_64 hE
set_option maxRecDepth 100000 in
theorem p_X12_tryNext_e {X : jX} {D : va_G} {ad : Nat → Nat} {cy : Nat → ClassId} (C : jC X (jMain D ad cy) RX12 cX12_tryNext (some .int) 5 4 93) {z : Int32 × jS} (Q : jRet X (jMain D ad cy) (some (.int z.1), z.2))   (S : jS) (hE : f_X12_tryNext_e    S = some z) : jJ X (jMain D ad cy) 0 [(0, .ref (ad 41))] [] S := by
  unfold f_X12_tryNext_e at hE
  refine j_aload_n C dX12_tryNext_0 0 rfl ?_
  refine k_X12_198_X12_layCan C dX12_tryNext_1 hE (Nat.le_of_ble_eq_true rfl) (Nat.le_of_ble_eq_true rfl) (Nat.le_of_ble_eq_true rfl) (fun S1 hE => ?_)
  refine j_iconst (v := (-1)) C dX12_tryNext_4 jc_ic_m1 ?_
  refine j_istore_n (i := 1) (lv' := [(1, .int (-1)), (0, .ref (ad 41))]) C dX12_tryNext_5 rfl (by decide) rfl ?_
  refine j_ldc (v := 1000000) C dX12_tryNext_6 tw_1079 ?_
  refine j_istore_n (i := 2) (lv' := [(2, .int 1000000), (1, .int (-1)), (0, .ref (ad 41))]) C dX12_tryNext_8 rfl (by decide) rfl ?_
  refine j_iconst (v := 1) C dX12_tryNext_9 jc_ic_1 ?_
  refine j_istore_n (i := 3) (lv' := [(3, .int 1), (2, .int 1000000), (1, .int (-1)), (0, .ref (ad 41))]) C dX12_tryNext_10 rfl (by decide) rfl ?_
  refine j_sub [3, 2, 1, 0] rfl ?_
  exact q_X12_tryNext_11 C Q (p_X12_tryNext_63 C Q ) (-1) 1000000 1 S1 hE
theorem c_X12_tryNext {l : Launch} {D : va_G} {ad : Nat → Nat} {cy : Nat → ClassId} (hO : jOk (jMain D ad cy))  (S : jS) {z : Int32 × jS} (hz : f_X12_tryNext  S = some z) : Met l yX12_tryNext (.code yX12_tryNext cX12_tryNext 5 (some .int) :: jT) { frames := 4, cells := 0, slots := 0, locals := 93 } (va_Pc [.ref (ad 41)] (jInv (jMain D ad cy) S)) (jQ (jMain D ad cy) (some (.int z.1), z.2)) 0 0 (yA (jMain D ad cy)) :=
  jMet hO (by decide +kernel) rfl (Nat.le_of_ble_eq_true rfl) (fun X _ C Q => p_X12_tryNext_e C Q  S hz)
set_option maxRecDepth 100000 in
theorem p_X11_greaterPart_71 {X : jX} {D : va_G} {ad : Nat → Nat} {cy : Nat → ClassId} (C : jC X (jMain D ad cy) RX11 cX11_greaterPart (some .int) 7 4 95) {z : Int32 × jS} (Q : jRet X (jMain D ad cy) (some (.int z.1), z.2)) {g : Int32 → Int32 → Int32 → Int32 → Int32 → Int32 → jS → Option (Int32 × jS)} (hg : ∀ (x1 : Int32) (x2 : Int32) (x3 : Int32) (x4 : Int32) (x5 : Int32) (x6 : Int32) (S : jS), g x1 x2 x3 x4 x5 x6 S = some z → jJ X (jMain D ad cy) 9 [(0, .ref (ad 0)), (1, .int x1), (2, .int x2), (3, .int x3), (4, .int x4), (5, .int x5), (6, .int x6)] [] S) {k77 : Int32 → Int32 → jS → Option (Int32 × jS)} (hk77 : ∀ (x4 : Int32) (x5 : Int32) (S : jS), k77 x4 x5 S = some z → jJ X (jMain D ad cy) 77 [(4, .int x4), (5, .int x5)] [] S) (x1 : Int32) (x2 : Int32) (x3 : Int32) (x4 : Int32) (x5 : Int32) (x6 : Int32) (S : jS) (hE : f_X11_greaterPart_71  g k77 x1 x2 x3 x4 x5 x6 S = some z) : jJ X (jMain D ad cy) 71 [(0, .ref (ad 0)), (1, .int x1), (2, .int x2), (3, .int x3), (4, .int x4), (5, .int x5), (6, .int x6)] [] S := by
  unfold f_X11_greaterPart_71 at hE
  refine j_iinc (v := (x6 + 1)) (lv' := [(6, .int (x6 + 1)), (0, .ref (ad 0)), (1, .int x1), (2, .int x2), (3, .int x3), (4, .int x4), (5, .int x5)]) C dX11_greaterPart_71 6 rfl (congrArg (fun w => x6 + w) jc_ic_1) (by decide) rfl ?_
  refine j_goto (tgt := 9) C dX11_greaterPart_74 rfl ?_
  refine j_sub [1, 2, 3, 4, 5, 6, 0] rfl ?_
  exact hg x1 x2 x3 x4 x5 (x6 + 1) S hE
set_option maxRecDepth 100000 in
theorem p_X11_greaterPart_9 {X : jX} {D : va_G} {ad : Nat → Nat} {cy : Nat → ClassId} (C : jC X (jMain D ad cy) RX11 cX11_greaterPart (some .int) 7 4 95) {z : Int32 × jS} (Q : jRet X (jMain D ad cy) (some (.int z.1), z.2)) {g : Int32 → Int32 → Int32 → Int32 → Int32 → Int32 → jS → Option (Int32 × jS)} (hg : ∀ (x1 : Int32) (x2 : Int32) (x3 : Int32) (x4 : Int32) (x5 : Int32) (x6 : Int32) (S : jS), g x1 x2 x3 x4 x5 x6 S = some z → jJ X (jMain D ad cy) 9 [(0, .ref (ad 0)), (1, .int x1), (2, .int x2), (3, .int x3), (4, .int x4), (5, .int x5), (6, .int x6)] [] S) {k77 : Int32 → Int32 → jS → Option (Int32 × jS)} (hk77 : ∀ (x4 : Int32) (x5 : Int32) (S : jS), k77 x4 x5 S = some z → jJ X (jMain D ad cy) 77 [(4, .int x4), (5, .int x5)] [] S) (x1 : Int32) (x2 : Int32) (x3 : Int32) (x4 : Int32) (x5 : Int32) (x6 : Int32) (S : jS) (hE : f_X11_greaterPart_9  g k77 x1 x2 x3 x4 x5 x6 S = some z) : jJ X (jMain D ad cy) 9 [(0, .ref (ad 0)), (1, .int x1), (2, .int x2), (3, .int x3), (4, .int x4), (5, .int x5), (6, .int x6)] [] S := by
  unfold f_X11_greaterPart_9 at hE
  refine j_iload C dX11_greaterPart_9 6 rfl ?_
  refine j_iload_n C dX11_greaterPart_11 2 rfl ?_
  refine j_icmp_ge (tgt := 77) C dX11_greaterPart_12 rfl hE (fun hE => ?_) (fun hE => ?_)
  · refine j_sub [4, 5] rfl ?_
    exact hk77 x4 x5 S hE
  · refine j_iload C dX11_greaterPart_15 6 rfl ?_
    refine j_aload_n C dX11_greaterPart_17 0 rfl ?_
    refine g_X11_60_0 C dX11_greaterPart_18 ?_
    refine n_39 C dX11_greaterPart_21 ?_
    refine j_icmp_ge (tgt := 77) C dX11_greaterPart_22 rfl hE (fun hE => ?_) (fun hE => ?_)
    · refine j_sub [4, 5] rfl ?_
      exact hk77 x4 x5 S hE
    · refine j_iload C dX11_greaterPart_25 4 rfl ?_
      refine j_iload_n C dX11_greaterPart_27 3 rfl ?_
      refine j_icmp_ge (tgt := 77) C dX11_greaterPart_28 rfl hE (fun hE => ?_) (fun hE => ?_)
      · refine j_sub [4, 5] rfl ?_
        exact hk77 x4 x5 S hE
      · refine j_iload C dX11_greaterPart_31 5 rfl ?_
        refine j_iload_n C dX11_greaterPart_33 3 rfl ?_
        refine j_icmp_ge (tgt := 77) C dX11_greaterPart_34 rfl hE (fun hE => ?_) (fun hE => ?_)
        · refine j_sub [4, 5] rfl ?_
          exact hk77 x4 x5 S hE
        · refine j_aload_n C dX11_greaterPart_37 0 rfl ?_
          refine g_X11_21_0 C dX11_greaterPart_38 ?_
          refine j_aload_n C dX11_greaterPart_41 0 rfl ?_
          refine g_X11_44_0 C dX11_greaterPart_42 ?_
          refine g_X11_85_21 C dX11_greaterPart_45 ?_
          refine j_iload_n C dX11_greaterPart_48 1 rfl ?_
          refine j_aload_n C dX11_greaterPart_49 0 rfl ?_
          refine g_X11_60_0 C dX11_greaterPart_50 ?_
          refine j_iload C dX11_greaterPart_53 6 rfl ?_
          refine l_39 C dX11_greaterPart_55 hE (fun v1 hE => ?_)
          refine k_X11_156_X2_allows C dX11_greaterPart_56 hE (Nat.le_of_ble_eq_true rfl) (Nat.le_of_ble_eq_true rfl) (Nat.le_of_ble_eq_true rfl) (fun v3 S2 hE => ?_)
          refine j_if_eq (tgt := 68) C dX11_greaterPart_59 rfl hE (fun hE => ?_) (fun hE => ?_)
          · refine j_iinc (v := (x5 + 1)) (lv' := [(5, .int (x5 + 1)), (0, .ref (ad 0)), (1, .int x1), (2, .int x2), (3, .int x3), (4, .int x4), (6, .int x6)]) C dX11_greaterPart_68 5 rfl (congrArg (fun w => x5 + w) jc_ic_1) (by decide) rfl ?_
            refine j_sub [1, 2, 3, 4, 5, 0, 6] rfl ?_
            exact p_X11_greaterPart_71 C Q hg hk77 x1 x2 x3 x4 (x5 + 1) x6 S2 hE
          · refine j_iinc (v := (x4 + 1)) (lv' := [(4, .int (x4 + 1)), (0, .ref (ad 0)), (1, .int x1), (2, .int x2), (3, .int x3), (5, .int x5), (6, .int x6)]) C dX11_greaterPart_62 4 rfl (congrArg (fun w => x4 + w) jc_ic_1) (by decide) rfl ?_
            refine j_goto (tgt := 71) C dX11_greaterPart_65 rfl ?_
            refine j_sub [1, 2, 3, 4, 0, 5, 6] rfl ?_
            exact p_X11_greaterPart_71 C Q hg hk77 x1 x2 x3 (x4 + 1) x5 x6 S2 hE
theorem q_X11_greaterPart_9 {X : jX} {D : va_G} {ad : Nat → Nat} {cy : Nat → ClassId} (C : jC X (jMain D ad cy) RX11 cX11_greaterPart (some .int) 7 4 95) {z : Int32 × jS} (Q : jRet X (jMain D ad cy) (some (.int z.1), z.2)) {k77 : Int32 → Int32 → jS → Option (Int32 × jS)} (hk77 : ∀ (x4 : Int32) (x5 : Int32) (S : jS), k77 x4 x5 S = some z → jJ X (jMain D ad cy) 77 [(4, .int x4), (5, .int x5)] [] S) (x1 : Int32) (x2 : Int32) (x3 : Int32) (x4 : Int32) (x5 : Int32) (x6 : Int32) (S : jS) (hE : lp_X11_greaterPart_9  k77 x1 x2 x3 x4 x5 x6 S = some z) : jJ X (jMain D ad cy) 9 [(0, .ref (ad 0)), (1, .int x1), (2, .int x2), (3, .int x3), (4, .int x4), (5, .int x5), (6, .int x6)] [] S :=
  jloop_P (α := Int32 × Int32 × Int32 × Int32 × Int32 × Int32 × jS) (B := (fun g q => f_X11_greaterPart_9  (fun x1 x2 x3 x4 x5 x6 S => g (x1, x2, x3, x4, x5, x6, S)) k77 q.1 q.2.1 q.2.2.1 q.2.2.2.1 q.2.2.2.2.1 q.2.2.2.2.2.1 q.2.2.2.2.2.2)) (P := fun q => jJ X (jMain D ad cy) 9 [(0, .ref (ad 0)), (1, .int q.1), (2, .int q.2.1), (3, .int q.2.2.1), (4, .int q.2.2.2.1), (5, .int q.2.2.2.2.1), (6, .int q.2.2.2.2.2.1)] [] q.2.2.2.2.2.2) (fun g q hg h => p_X11_greaterPart_9 C Q (g := fun x1 x2 x3 x4 x5 x6 S => g (x1, x2, x3, x4, x5, x6, S)) (fun x1 x2 x3 x4 x5 x6 S h => hg (x1, x2, x3, x4, x5, x6, S) h) hk77 q.1 q.2.1 q.2.2.1 q.2.2.2.1 q.2.2.2.2.1 q.2.2.2.2.2.1 q.2.2.2.2.2.2 h) jN (x1, x2, x3, x4, x5, x6, S) hE
set_option maxRecDepth 100000 in
theorem p_X11_greaterPart_77 {X : jX} {D : va_G} {ad : Nat → Nat} {cy : Nat → ClassId} (C : jC X (jMain D ad cy) RX11 cX11_greaterPart (some .int) 7 4 95) {z : Int32 × jS} (Q : jRet X (jMain D ad cy) (some (.int z.1), z.2))  (x4 : Int32) (x5 : Int32) (S : jS) (hE : f_X11_greaterPart_77   x4 x5 S = some z) : jJ X (jMain D ad cy) 77 [(4, .int x4), (5, .int x5)] [] S := by
  unfold f_X11_greaterPart_77 at hE
  refine j_iload C dX11_greaterPart_77 0 rfl ?_
  refine j_iload C dX11_greaterPart_79 1 rfl ?_
  refine j_mmax C tm_774 tm_684 tm_87 tm_685 dX11_greaterPart_81 (Nat.le_of_ble_eq_true rfl) (Nat.le_of_ble_eq_true rfl) ?_
  exact j_iret C Q dX11_greaterPart_84 hE
set_option maxRecDepth 100000 in
theorem p_X11_greaterPart_e {X : jX} {D : va_G} {ad : Nat → Nat} {cy : Nat → ClassId} (C : jC X (jMain D ad cy) RX11 cX11_greaterPart (some .int) 7 4 95) {z : Int32 × jS} (Q : jRet X (jMain D ad cy) (some (.int z.1), z.2))  (x1 : Int32) (x2 : Int32) (x3 : Int32) (S : jS) (hE : f_X11_greaterPart_e   x1 x2 x3 S = some z) : jJ X (jMain D ad cy) 0 [(0, .ref (ad 0)), (1, .int x1), (2, .int x2), (3, .int x3)] [] S := by
  unfold f_X11_greaterPart_e at hE
  refine j_iconst (v := 0) C dX11_greaterPart_0 jc_ic_0 ?_
  refine j_istore (lv' := [(4, .int 0), (0, .ref (ad 0)), (1, .int x1), (2, .int x2), (3, .int x3)]) C dX11_greaterPart_1 (by decide) rfl ?_
  refine j_iconst (v := 0) C dX11_greaterPart_3 jc_ic_0 ?_
  refine j_istore (lv' := [(5, .int 0), (4, .int 0), (0, .ref (ad 0)), (1, .int x1), (2, .int x2), (3, .int x3)]) C dX11_greaterPart_4 (by decide) rfl ?_
  refine j_iconst (v := 0) C dX11_greaterPart_6 jc_ic_0 ?_
  refine j_istore (lv' := [(6, .int 0), (5, .int 0), (4, .int 0), (0, .ref (ad 0)), (1, .int x1), (2, .int x2), (3, .int x3)]) C dX11_greaterPart_7 (by decide) rfl ?_
  refine j_sub [3, 4, 5, 6, 2, 1, 0] rfl ?_
  exact q_X11_greaterPart_9 C Q (p_X11_greaterPart_77 C Q ) x1 x2 x3 0 0 0 S hE
theorem c_X11_greaterPart {l : Launch} {D : va_G} {ad : Nat → Nat} {cy : Nat → ClassId} (hO : jOk (jMain D ad cy)) (x1 : Int32) (x2 : Int32) (x3 : Int32) (S : jS) {z : Int32 × jS} (hz : f_X11_greaterPart x1 x2 x3 S = some z) : Met l yX11_greaterPart (.code yX11_greaterPart cX11_greaterPart 7 (some .int) :: jT) { frames := 4, cells := 0, slots := 0, locals := 95 } (va_Pc [.ref (ad 0), .int x1, .int x2, .int x3] (jInv (jMain D ad cy) S)) (jQ (jMain D ad cy) (some (.int z.1), z.2)) 0 0 (yA (jMain D ad cy)) :=
  jMet hO (by decide +kernel) rfl (Nat.le_of_ble_eq_true rfl) (fun X _ C Q => p_X11_greaterPart_e C Q x1 x2 x3 S hz)
theorem k_X11_231_X11_greaterPart {X : jX} {D : va_G} {ad : Nat → Nat} {cy : Nat → ClassId} {cc : ByteArray} {ret : Option FieldType} {nL fr lo pc : Nat} {lv : List (Nat × Value)} {st : List Value} {S : jS} {β : Type} {z : β} (C : jC X (jMain D ad cy) RX11 cc ret nL fr lo) {a0 : Int32} {a1 : Int32} {a2 : Int32} {E : Int32 → jS → Option β} (d : decode cc pc = .ok (.invokevirtual 231, 3)) (hE : jcl (f_X11_greaterPart a0 a1 a2 S) E = some z) (hfr : 5 ≤ fr) (hlo : 121 ≤ lo) (hst : (st.map fun v => v.category).sum ≤ 8) (K : ∀ (v : Int32) (S1 : jS), E v S1 = some z → jJ X (jMain D ad cy) (pc + 3) lv (.int v :: st) S1) : jJ X (jMain D ad cy) pc lv (.int a2 :: .int a1 :: .int a0 :: .ref (ad 0) :: st) S := by
  obtain ⟨v, h1, h2⟩ := jcl_some hE
  exact j_callV (k := 0) (ci := 11) (T := TX11) (N := 16) (n := 3) (As := [.int a0, .int a1, .int a2]) C (c_X11_greaterPart C.2.2.2.2.2.2.1 a0 a1 a2 S h1) tw_770 tw_772 tw_26 tw_69 tw_773 (by decide +kernel) rfl (by decide : 0 < 56) rfl rfl hfr hlo hst rfl d (K _ _ h2)
set_option maxRecDepth 100000 in
theorem p_X11_tryNext_48 {X : jX} {D : va_G} {ad : Nat → Nat} {cy : Nat → ClassId} (C : jC X (jMain D ad cy) RX11 cX11_tryNext (some .int) 6 6 140) {z : Int32 × jS} (Q : jRet X (jMain D ad cy) (some (.int z.1), z.2)) {g : Int32 → Int32 → Int32 → Int32 → jS → Option (Int32 × jS)} (hg : ∀ (x1 : Int32) (x2 : Int32) (x3 : Int32) (x4 : Int32) (S : jS), g x1 x2 x3 x4 S = some z → jJ X (jMain D ad cy) 14 [(0, .ref (ad 0)), (1, .int x1), (2, .int x2), (3, .int x3), (4, .int x4)] [] S) {k54 : Int32 → jS → Option (Int32 × jS)} (hk54 : ∀ (x2 : Int32) (S : jS), k54 x2 S = some z → jJ X (jMain D ad cy) 54 [(2, .int x2)] [] S) (x1 : Int32) (x2 : Int32) (x3 : Int32) (x4 : Int32) (S : jS) (hE : f_X11_tryNext_48  g k54 x1 x2 x3 x4 S = some z) : jJ X (jMain D ad cy) 48 [(0, .ref (ad 0)), (1, .int x1), (2, .int x2), (3, .int x3), (4, .int x4)] [] S := by
  unfold f_X11_tryNext_48 at hE
  refine j_iinc (v := (x4 + 1)) (lv' := [(4, .int (x4 + 1)), (0, .ref (ad 0)), (1, .int x1), (2, .int x2), (3, .int x3)]) C dX11_tryNext_48 4 rfl (congrArg (fun w => x4 + w) jc_ic_1) (by decide) rfl ?_
  refine j_goto (tgt := 14) C dX11_tryNext_51 rfl ?_
  refine j_sub [1, 2, 3, 4, 0] rfl ?_
  exact hg x1 x2 x3 (x4 + 1) S hE
set_option maxRecDepth 100000 in
theorem p_X11_tryNext_14 {X : jX} {D : va_G} {ad : Nat → Nat} {cy : Nat → ClassId} (C : jC X (jMain D ad cy) RX11 cX11_tryNext (some .int) 6 6 140) {z : Int32 × jS} (Q : jRet X (jMain D ad cy) (some (.int z.1), z.2)) {g : Int32 → Int32 → Int32 → Int32 → jS → Option (Int32 × jS)} (hg : ∀ (x1 : Int32) (x2 : Int32) (x3 : Int32) (x4 : Int32) (S : jS), g x1 x2 x3 x4 S = some z → jJ X (jMain D ad cy) 14 [(0, .ref (ad 0)), (1, .int x1), (2, .int x2), (3, .int x3), (4, .int x4)] [] S) {k54 : Int32 → jS → Option (Int32 × jS)} (hk54 : ∀ (x2 : Int32) (S : jS), k54 x2 S = some z → jJ X (jMain D ad cy) 54 [(2, .int x2)] [] S) (x1 : Int32) (x2 : Int32) (x3 : Int32) (x4 : Int32) (S : jS) (hE : f_X11_tryNext_14  g k54 x1 x2 x3 x4 S = some z) : jJ X (jMain D ad cy) 14 [(0, .ref (ad 0)), (1, .int x1), (2, .int x2), (3, .int x3), (4, .int x4)] [] S := by
  unfold f_X11_tryNext_14 at hE
  refine j_iload C dX11_tryNext_14 4 rfl ?_
  refine j_sipush (v := 300) C dX11_tryNext_16 jc_sp_300 ?_
  refine j_icmp_gt (tgt := 54) C dX11_tryNext_19 rfl hE (fun hE => ?_) (fun hE => ?_)
  · refine j_sub [2] rfl ?_
    exact hk54 x2 S hE
  · refine j_iload_n C dX11_tryNext_22 1 rfl ?_
    refine j_if_le (tgt := 54) C dX11_tryNext_23 rfl hE (fun hE => ?_) (fun hE => ?_)
    · refine j_sub [2] rfl ?_
      exact hk54 x2 S hE
    · refine j_aload_n C dX11_tryNext_26 0 rfl ?_
      refine j_iload C dX11_tryNext_27 4 rfl ?_
      refine j_iload_n C dX11_tryNext_29 1 rfl ?_
      refine j_iload_n C dX11_tryNext_30 3 rfl ?_
      refine k_X11_231_X11_greaterPart C dX11_tryNext_31 hE (Nat.le_of_ble_eq_true rfl) (Nat.le_of_ble_eq_true rfl) (Nat.le_of_ble_eq_true rfl) (fun v2 S1 hE => ?_)
      refine j_istore (lv' := [(5, .int v2), (0, .ref (ad 0)), (1, .int x1), (2, .int x2), (3, .int x3), (4, .int x4)]) C dX11_tryNext_34 (by decide) rfl ?_
      refine j_iload C dX11_tryNext_36 0 rfl ?_
      refine j_iload_n C dX11_tryNext_38 4 rfl ?_
      refine j_icmp_ge (tgt := 48) C dX11_tryNext_39 rfl hE (fun hE => ?_) (fun hE => ?_)
      · refine j_sub [1, 2, 3, 4, 5] rfl ?_
        exact p_X11_tryNext_48 C Q hg hk54 x1 x2 x3 x4 S1 hE
      · refine j_iload C dX11_tryNext_42 0 rfl ?_
        refine j_istore_n (i := 3) (lv' := [(3, .int v2), (5, .int v2), (0, .ref (ad 0)), (1, .int x1), (2, .int x2), (4, .int x4)]) C dX11_tryNext_44 rfl (by decide) rfl ?_
        refine j_iload C dX11_tryNext_45 5 rfl ?_
        refine j_istore_n (i := 2) (lv' := [(2, .int x4), (3, .int v2), (5, .int v2), (0, .ref (ad 0)), (1, .int x1), (4, .int x4)]) C dX11_tryNext_47 rfl (by decide) rfl ?_
        refine j_sub [3, 4, 0, 1, 5] rfl ?_
        exact p_X11_tryNext_48 C Q hg hk54 x1 x4 v2 x4 S1 hE
theorem q_X11_tryNext_14 {X : jX} {D : va_G} {ad : Nat → Nat} {cy : Nat → ClassId} (C : jC X (jMain D ad cy) RX11 cX11_tryNext (some .int) 6 6 140) {z : Int32 × jS} (Q : jRet X (jMain D ad cy) (some (.int z.1), z.2)) {k54 : Int32 → jS → Option (Int32 × jS)} (hk54 : ∀ (x2 : Int32) (S : jS), k54 x2 S = some z → jJ X (jMain D ad cy) 54 [(2, .int x2)] [] S) (x1 : Int32) (x2 : Int32) (x3 : Int32) (x4 : Int32) (S : jS) (hE : lp_X11_tryNext_14  k54 x1 x2 x3 x4 S = some z) : jJ X (jMain D ad cy) 14 [(0, .ref (ad 0)), (1, .int x1), (2, .int x2), (3, .int x3), (4, .int x4)] [] S :=
  jloop_P (α := Int32 × Int32 × Int32 × Int32 × jS) (B := (fun g q => f_X11_tryNext_14  (fun x1 x2 x3 x4 S => g (x1, x2, x3, x4, S)) k54 q.1 q.2.1 q.2.2.1 q.2.2.2.1 q.2.2.2.2)) (P := fun q => jJ X (jMain D ad cy) 14 [(0, .ref (ad 0)), (1, .int q.1), (2, .int q.2.1), (3, .int q.2.2.1), (4, .int q.2.2.2.1)] [] q.2.2.2.2) (fun g q hg h => p_X11_tryNext_14 C Q (g := fun x1 x2 x3 x4 S => g (x1, x2, x3, x4, S)) (fun x1 x2 x3 x4 S h => hg (x1, x2, x3, x4, S) h) hk54 q.1 q.2.1 q.2.2.1 q.2.2.2.1 q.2.2.2.2 h) jN (x1, x2, x3, x4, S) hE
set_option maxRecDepth 100000 in
theorem p_X11_tryNext_54 {X : jX} {D : va_G} {ad : Nat → Nat} {cy : Nat → ClassId} (C : jC X (jMain D ad cy) RX11 cX11_tryNext (some .int) 6 6 140) {z : Int32 × jS} (Q : jRet X (jMain D ad cy) (some (.int z.1), z.2))  (x2 : Int32) (S : jS) (hE : f_X11_tryNext_54   x2 S = some z) : jJ X (jMain D ad cy) 54 [(2, .int x2)] [] S := by
  unfold f_X11_tryNext_54 at hE
  refine j_iload_n C dX11_tryNext_54 0 rfl ?_
  exact j_iret C Q dX11_tryNext_55 hE
set_option maxRecDepth 100000 in
theorem p_X11_tryNext_e {X : jX} {D : va_G} {ad : Nat → Nat} {cy : Nat → ClassId} (C : jC X (jMain D ad cy) RX11 cX11_tryNext (some .int) 6 6 140) {z : Int32 × jS} (Q : jRet X (jMain D ad cy) (some (.int z.1), z.2))   (S : jS) (hE : f_X11_tryNext_e    S = some z) : jJ X (jMain D ad cy) 0 [(0, .ref (ad 0))] [] S := by
  unfold f_X11_tryNext_e at hE
  refine j_aload_n C dX11_tryNext_0 0 rfl ?_
  refine k_X11_228_X11_gatherFits C dX11_tryNext_1 hE (Nat.le_of_ble_eq_true rfl) (Nat.le_of_ble_eq_true rfl) (Nat.le_of_ble_eq_true rfl) (fun v2 S1 hE => ?_)
  refine j_istore_n (i := 1) (lv' := [(1, .int v2), (0, .ref (ad 0))]) C dX11_tryNext_4 rfl (by decide) rfl ?_
  refine j_iconst (v := (-1)) C dX11_tryNext_5 jc_ic_m1 ?_
  refine j_istore_n (i := 2) (lv' := [(2, .int (-1)), (1, .int v2), (0, .ref (ad 0))]) C dX11_tryNext_6 rfl (by decide) rfl ?_
  refine j_sipush (v := 301) C dX11_tryNext_7 jc_sp_301 ?_
  refine j_istore_n (i := 3) (lv' := [(3, .int 301), (2, .int (-1)), (1, .int v2), (0, .ref (ad 0))]) C dX11_tryNext_10 rfl (by decide) rfl ?_
  refine j_iconst (v := 1) C dX11_tryNext_11 jc_ic_1 ?_
  refine j_istore (lv' := [(4, .int 1), (3, .int 301), (2, .int (-1)), (1, .int v2), (0, .ref (ad 0))]) C dX11_tryNext_12 (by decide) rfl ?_
  refine j_sub [4, 3, 2, 1, 0] rfl ?_
  exact q_X11_tryNext_14 C Q (p_X11_tryNext_54 C Q ) v2 (-1) 301 1 S1 hE
theorem c_X11_tryNext {l : Launch} {D : va_G} {ad : Nat → Nat} {cy : Nat → ClassId} (hO : jOk (jMain D ad cy))  (S : jS) {z : Int32 × jS} (hz : f_X11_tryNext  S = some z) : Met l yX11_tryNext (.code yX11_tryNext cX11_tryNext 6 (some .int) :: jT) { frames := 6, cells := 0, slots := 0, locals := 140 } (va_Pc [.ref (ad 0)] (jInv (jMain D ad cy) S)) (jQ (jMain D ad cy) (some (.int z.1), z.2)) 0 0 (yA (jMain D ad cy)) :=
  jMet hO (by decide +kernel) rfl (Nat.le_of_ble_eq_true rfl) (fun X _ C Q => p_X11_tryNext_e C Q  S hz)
set_option maxRecDepth 100000 in
theorem p_X12_note_24 {X : jX} {D : va_G} {ad : Nat → Nat} {cy : Nat → ClassId} (C : jC X (jMain D ad cy) RX12 cX12_note (some .int) 5 2 45) {z : Int32 × jS} (Q : jRet X (jMain D ad cy) (some (.int z.1), z.2))   (S : jS) (hE : f_X12_note_24    S = some z) : jJ X (jMain D ad cy) 24 [(0, .ref (ad 41))] [] S := by
  unfold f_X12_note_24 at hE
  refine j_aload_n C dX12_note_24 0 rfl ?_
  refine j_bipush (v := (-2)) C dX12_note_25 jc_bp_m2 ?_
  refine k_X12_87_X12_bad C dX12_note_27 hE (Nat.le_of_ble_eq_true rfl) (Nat.le_of_ble_eq_true rfl) (Nat.le_of_ble_eq_true rfl) (fun v2 S1 hE => ?_)
  exact j_iret C Q dX12_note_30 hE
set_option maxRecDepth 100000 in
theorem p_X12_note_e {X : jX} {D : va_G} {ad : Nat → Nat} {cy : Nat → ClassId} (C : jC X (jMain D ad cy) RX12 cX12_note (some .int) 5 2 45) {z : Int32 × jS} (Q : jRet X (jMain D ad cy) (some (.int z.1), z.2))  (x1 : Int32) (x2 : Int32) (x3 : Int32) (S : jS) (hE : f_X12_note_e   x1 x2 x3 S = some z) : jJ X (jMain D ad cy) 0 [(0, .ref (ad 41)), (1, .int x1), (2, .int x2), (3, .int x3)] [] S := by
  unfold f_X12_note_e at hE
  refine j_iload_n C dX12_note_0 1 rfl ?_
  refine k_X12_131_X12_isNumber C dX12_note_1 hE (Nat.le_of_ble_eq_true rfl) (Nat.le_of_ble_eq_true rfl) (Nat.le_of_ble_eq_true rfl) (fun v2 S1 hE => ?_)
  refine j_if_eq (tgt := 24) C dX12_note_4 rfl hE (fun hE => ?_) (fun hE => ?_)
  · refine j_sub [0] rfl ?_
    exact p_X12_note_24 C Q   S1 hE
  · refine j_iload_n C dX12_note_7 2 rfl ?_
    refine k_X12_131_X12_isNumber C dX12_note_8 hE (Nat.le_of_ble_eq_true rfl) (Nat.le_of_ble_eq_true rfl) (Nat.le_of_ble_eq_true rfl) (fun v4 S3 hE => ?_)
    refine j_if_eq (tgt := 24) C dX12_note_11 rfl hE (fun hE => ?_) (fun hE => ?_)
    · refine j_sub [0] rfl ?_
      exact p_X12_note_24 C Q   S3 hE
    · refine j_iload_n C dX12_note_14 3 rfl ?_
      refine j_i2l C dX12_note_15 ?_
      refine j_lconst (v := 0) C dX12_note_16 jc_lc_0 ?_
      refine j_lconst (v := 1) C dX12_note_17 jc_lc_1 ?_
      refine k_X12_59_X12_in C dX12_note_18 hE (Nat.le_of_ble_eq_true rfl) (Nat.le_of_ble_eq_true rfl) (Nat.le_of_ble_eq_true rfl) (fun v6 S5 hE => ?_)
      refine j_if_ne (tgt := 31) C dX12_note_21 rfl hE (fun hE => ?_) (fun hE => ?_)
      · refine j_aload_n C dX12_note_31 0 rfl ?_
        refine g_X12_7_41 C dX12_note_32 ?_
        refine j_bipush (v := 11) C dX12_note_35 jc_bp_11 ?_
        refine l_42 C dX12_note_37 hE (fun v7 hE => ?_)
        refine j_bipush (v := 8) C dX12_note_38 jc_bp_8 ?_
        refine j_icmp_ne (tgt := 48) C dX12_note_40 rfl hE (fun hE => ?_) (fun hE => ?_)
        · refine j_bipush (v := 45) C dX12_note_48 jc_bp_45 ?_
          refine j_iconst (v := 3) C dX12_note_50 jc_ic_3 ?_
          refine j_aload_n C dX12_note_51 0 rfl ?_
          refine g_X12_7_41 C dX12_note_52 ?_
          refine j_bipush (v := 11) C dX12_note_55 jc_bp_11 ?_
          refine l_42 C dX12_note_57 hE (fun v8 hE => ?_)
          refine j_imul C dX12_note_58 ?_
          refine j_iadd C dX12_note_59 ?_
          refine j_istore (lv' := [(4, .int (45 + (3 * v8))), (0, .ref (ad 41)), (1, .int x1), (2, .int x2), (3, .int x3)]) C dX12_note_60 (by decide) rfl ?_
          refine j_aload_n C dX12_note_62 1 rfl ?_
          refine g_X12_7_41 C dX12_note_63 ?_
          refine j_iload C dX12_note_66 0 rfl ?_
          refine j_iload_n C dX12_note_68 2 rfl ?_
          refine s_42 C dX12_note_69 hE (fun S9 hE => ?_)
          refine j_aload_n C dX12_note_70 1 rfl ?_
          refine g_X12_7_41 C dX12_note_71 ?_
          refine j_iload C dX12_note_74 0 rfl ?_
          refine j_iconst (v := 1) C dX12_note_76 jc_ic_1 ?_
          refine j_iadd C dX12_note_77 ?_
          refine j_iload_n C dX12_note_78 3 rfl ?_
          refine s_42 C dX12_note_79 hE (fun S10 hE => ?_)
          refine j_aload_n C dX12_note_80 1 rfl ?_
          refine g_X12_7_41 C dX12_note_81 ?_
          refine j_iload C dX12_note_84 0 rfl ?_
          refine j_iconst (v := 2) C dX12_note_86 jc_ic_2 ?_
          refine j_iadd C dX12_note_87 ?_
          refine j_iload_n C dX12_note_88 4 rfl ?_
          refine s_42 C dX12_note_89 hE (fun S11 hE => ?_)
          refine j_aload_n C dX12_note_90 1 rfl ?_
          refine g_X12_7_41 C dX12_note_91 ?_
          refine j_bipush (v := 11) C dX12_note_94 jc_bp_11 ?_
          refine j_dup2 C dX12_note_96 rfl rfl ?_
          refine l_42 C dX12_note_97 hE (fun v12 hE => ?_)
          refine j_iconst (v := 1) C dX12_note_98 jc_ic_1 ?_
          refine j_iadd C dX12_note_99 ?_
          refine s_42 C dX12_note_100 hE (fun S13 hE => ?_)
          refine j_aload_n C dX12_note_101 1 rfl ?_
          refine g_X12_7_41 C dX12_note_102 ?_
          refine j_bipush (v := 11) C dX12_note_105 jc_bp_11 ?_
          refine l_42 C dX12_note_107 hE (fun v14 hE => ?_)
          exact j_iret C Q dX12_note_108 hE
        · refine j_aload_n C dX12_note_43 0 rfl ?_
          refine k_X12_186_X12_full C dX12_note_44 hE (Nat.le_of_ble_eq_true rfl) (Nat.le_of_ble_eq_true rfl) (Nat.le_of_ble_eq_true rfl) (fun v16 S15 hE => ?_)
          exact j_iret C Q dX12_note_47 hE
      · refine j_sub [0] rfl ?_
        exact p_X12_note_24 C Q   S5 hE
theorem c_X12_note {l : Launch} {D : va_G} {ad : Nat → Nat} {cy : Nat → ClassId} (hO : jOk (jMain D ad cy)) (x1 : Int32) (x2 : Int32) (x3 : Int32) (S : jS) {z : Int32 × jS} (hz : f_X12_note x1 x2 x3 S = some z) : Met l yX12_note (.code yX12_note cX12_note 5 (some .int) :: jT) { frames := 2, cells := 0, slots := 0, locals := 45 } (va_Pc [.ref (ad 41), .int x1, .int x2, .int x3] (jInv (jMain D ad cy) S)) (jQ (jMain D ad cy) (some (.int z.1), z.2)) 0 0 (yA (jMain D ad cy)) :=
  jMet hO (by decide +kernel) rfl (Nat.le_of_ble_eq_true rfl) (fun X _ C Q => p_X12_note_e C Q x1 x2 x3 S hz)
set_option maxRecDepth 100000 in
theorem p_X10_addThree_r24_39 {X : jX} {D : va_G} {ad : Nat → Nat} {cy : Nat → ClassId} (C : jC X (jMain D ad cy) RX10 cX10_addThree (none) 6 0 0) {z : jS} (Q : jRet X (jMain D ad cy) (none, z))   (S : jS) (hE : f_X10_addThree_r24_39    S = some z) : jJ X (jMain D ad cy) 39 [] [] S := by
  unfold f_X10_addThree_r24_39 at hE
  exact j_vret C Q dX10_addThree_39 hE
set_option maxRecDepth 100000 in
theorem p_X10_addThree_r24_e {X : jX} {D : va_G} {ad : Nat → Nat} {cy : Nat → ClassId} (C : jC X (jMain D ad cy) RX10 cX10_addThree (none) 6 0 0) {z : jS} (Q : jRet X (jMain D ad cy) (none, z))  (x1 : Int32) (x2 : Int32) (x3 : Int32) (x4 : Int32) (S : jS) (hE : f_X10_addThree_r24_e   x1 x2 x3 x4 S = some z) : jJ X (jMain D ad cy) 0 [(0, .ref (ad 24)), (1, .int x1), (2, .int x2), (3, .int x3), (4, .int x4)] [] S := by
  unfold f_X10_addThree_r24_e at hE
  refine j_iconst (v := 3) C dX10_addThree_0 jc_ic_3 ?_
  refine j_iload_n C dX10_addThree_1 1 rfl ?_
  refine j_imul C dX10_addThree_2 ?_
  refine j_istore (lv' := [(5, .int (3 * x1)), (0, .ref (ad 24)), (1, .int x1), (2, .int x2), (3, .int x3), (4, .int x4)]) C dX10_addThree_3 (by decide) rfl ?_
  refine j_iload C dX10_addThree_5 0 rfl ?_
  refine j_if_lt (tgt := 39) C dX10_addThree_7 rfl hE (fun hE => ?_) (fun hE => ?_)
  · refine j_sub [] rfl ?_
    exact p_X10_addThree_r24_39 C Q   S hE
  · refine j_iload C dX10_addThree_10 0 rfl ?_
    refine j_iconst (v := 2) C dX10_addThree_12 jc_ic_2 ?_
    refine j_iadd C dX10_addThree_13 ?_
    refine j_aload_n C dX10_addThree_14 1 rfl ?_
    refine n_24 C dX10_addThree_15 ?_
    refine j_icmp_ge (tgt := 39) C dX10_addThree_16 rfl hE (fun hE => ?_) (fun hE => ?_)
    · refine j_sub [] rfl ?_
      exact p_X10_addThree_r24_39 C Q   S hE
    · refine j_aload_n C dX10_addThree_19 1 rfl ?_
      refine j_iload C dX10_addThree_20 0 rfl ?_
      refine j_iload_n C dX10_addThree_22 3 rfl ?_
      refine s_24 C dX10_addThree_23 hE (fun S1 hE => ?_)
      refine j_aload_n C dX10_addThree_24 1 rfl ?_
      refine j_iload C dX10_addThree_25 0 rfl ?_
      refine j_iconst (v := 1) C dX10_addThree_27 jc_ic_1 ?_
      refine j_iadd C dX10_addThree_28 ?_
      refine j_iload_n C dX10_addThree_29 4 rfl ?_
      refine s_24 C dX10_addThree_30 hE (fun S2 hE => ?_)
      refine j_aload_n C dX10_addThree_31 1 rfl ?_
      refine j_iload C dX10_addThree_32 0 rfl ?_
      refine j_iconst (v := 2) C dX10_addThree_34 jc_ic_2 ?_
      refine j_iadd C dX10_addThree_35 ?_
      refine j_iload C dX10_addThree_36 5 rfl ?_
      refine s_24 C dX10_addThree_38 hE (fun S3 hE => ?_)
      refine j_sub [] rfl ?_
      exact p_X10_addThree_r24_39 C Q   S3 hE
theorem c_X10_addThree_r24 {l : Launch} {D : va_G} {ad : Nat → Nat} {cy : Nat → ClassId} (hO : jOk (jMain D ad cy)) (x1 : Int32) (x2 : Int32) (x3 : Int32) (x4 : Int32) (S : jS) {z : jS} (hz : f_X10_addThree_r24 x1 x2 x3 x4 S = some z) : Met l yX10_addThree (.code yX10_addThree cX10_addThree 6 (none) :: jT) { frames := 0, cells := 0, slots := 0, locals := 0 } (va_Pc [.ref (ad 24), .int x1, .int x2, .int x3, .int x4] (jInv (jMain D ad cy) S)) (jQ (jMain D ad cy) (none, z)) 0 0 (yA (jMain D ad cy)) :=
  jMet hO (by decide +kernel) rfl (Nat.le_of_ble_eq_true rfl) (fun X _ C Q => p_X10_addThree_r24_e C Q x1 x2 x3 x4 S hz)
theorem k_X10_43_X10_addThree_r24 {X : jX} {D : va_G} {ad : Nat → Nat} {cy : Nat → ClassId} {cc : ByteArray} {ret : Option FieldType} {nL fr lo pc : Nat} {lv : List (Nat × Value)} {st : List Value} {S : jS} {β : Type} {z : β} (C : jC X (jMain D ad cy) RX10 cc ret nL fr lo) {a1 : Int32} {a2 : Int32} {a3 : Int32} {a4 : Int32} {E : jS → Option β} (d : decode cc pc = .ok (.invokestatic 43, 3)) (hE : jcv (f_X10_addThree_r24 a1 a2 a3 a4 S) E = some z) (hfr : 1 ≤ fr) (hlo : 25 ≤ lo) (hst : (st.map fun v => v.category).sum ≤ 8) (K : ∀ S1, E S1 = some z → jJ X (jMain D ad cy) (pc + 3) lv st S1) : jJ X (jMain D ad cy) pc lv (.int a4 :: .int a3 :: .int a2 :: .int a1 :: .ref (ad 24) :: st) S := by
  obtain ⟨v, h1, h2⟩ := jcv_some hE
  exact j_callS (n := 5) (As := [.ref (ad 24), .int a1, .int a2, .int a3, .int a4]) C (c_X10_addThree_r24 C.2.2.2.2.2.2.1 a1 a2 a3 a4 S h1) tw_751 tw_752 tw_80 tw_753 (by decide +kernel) rfl hfr hlo hst rfl d (K _ h2)
set_option maxRecDepth 100000 in
theorem p_X10_addNote_e {X : jX} {D : va_G} {ad : Nat → Nat} {cy : Nat → ClassId} (C : jC X (jMain D ad cy) RX10 cX10_addNote (none) 4 1 25) {z : jS} (Q : jRet X (jMain D ad cy) (none, z))  (x1 : Int32) (x2 : Int32) (x3 : Int32) (S : jS) (hE : f_X10_addNote_e   x1 x2 x3 S = some z) : jJ X (jMain D ad cy) 0 [(0, .ref (ad 21)), (1, .int x1), (2, .int x2), (3, .int x3)] [] S := by
  unfold f_X10_addNote_e at hE
  refine j_aload_n C dX10_addNote_0 0 rfl ?_
  refine g_X10_18_21 C dX10_addNote_1 ?_
  refine j_aload_n C dX10_addNote_4 0 rfl ?_
  refine g_X10_31_21 C dX10_addNote_5 ?_
  refine j_iload_n C dX10_addNote_8 1 rfl ?_
  refine j_iload_n C dX10_addNote_9 2 rfl ?_
  refine j_iload_n C dX10_addNote_10 3 rfl ?_
  refine k_X10_43_X10_addThree_r24 C dX10_addNote_11 hE (Nat.le_of_ble_eq_true rfl) (Nat.le_of_ble_eq_true rfl) (Nat.le_of_ble_eq_true rfl) (fun S1 hE => ?_)
  refine j_aload_n C dX10_addNote_14 0 rfl ?_
  refine j_dup C dX10_addNote_15 rfl ?_
  refine g_X10_31_21 C dX10_addNote_16 ?_
  refine j_iconst (v := 1) C dX10_addNote_19 jc_ic_1 ?_
  refine j_iadd C dX10_addNote_20 ?_
  refine p_X10_31_21 C dX10_addNote_21 hE (fun S2 hE => ?_)
  exact j_vret C Q dX10_addNote_24 hE
theorem c_X10_addNote {l : Launch} {D : va_G} {ad : Nat → Nat} {cy : Nat → ClassId} (hO : jOk (jMain D ad cy)) (x1 : Int32) (x2 : Int32) (x3 : Int32) (S : jS) {z : jS} (hz : f_X10_addNote x1 x2 x3 S = some z) : Met l yX10_addNote (.code yX10_addNote cX10_addNote 4 (none) :: jT) { frames := 1, cells := 0, slots := 0, locals := 25 } (va_Pc [.ref (ad 21), .int x1, .int x2, .int x3] (jInv (jMain D ad cy) S)) (jQ (jMain D ad cy) (none, z)) 0 0 (yA (jMain D ad cy)) :=
  jMet hO (by decide +kernel) rfl (Nat.le_of_ble_eq_true rfl) (fun X _ C Q => p_X10_addNote_e C Q x1 x2 x3 S hz)
theorem k_X11_237_X10_addNote {X : jX} {D : va_G} {ad : Nat → Nat} {cy : Nat → ClassId} {cc : ByteArray} {ret : Option FieldType} {nL fr lo pc : Nat} {lv : List (Nat × Value)} {st : List Value} {S : jS} {β : Type} {z : β} (C : jC X (jMain D ad cy) RX11 cc ret nL fr lo) {a0 : Int32} {a1 : Int32} {a2 : Int32} {E : jS → Option β} (d : decode cc pc = .ok (.invokevirtual 237, 3)) (hE : jcv (f_X10_addNote a0 a1 a2 S) E = some z) (hfr : 2 ≤ fr) (hlo : 48 ≤ lo) (hst : (st.map fun v => v.category).sum ≤ 8) (K : ∀ S1, E S1 = some z → jJ X (jMain D ad cy) (pc + 3) lv st S1) : jJ X (jMain D ad cy) pc lv (.int a2 :: .int a1 :: .int a0 :: .ref (ad 21) :: st) S := by
  obtain ⟨v, h1, h2⟩ := jcv_some hE
  exact j_callV (k := 21) (ci := 10) (T := TX10) (N := 8) (n := 3) (As := [.int a0, .int a1, .int a2]) C (c_X10_addNote C.2.2.2.2.2.2.1 a0 a1 a2 S h1) tw_779 tw_780 tw_781 tw_80 tw_782 (by decide +kernel) rfl (by decide : 21 < 56) rfl rfl hfr hlo hst rfl d (K _ h2)
