set_option maxRecDepth 100000 in
theorem p_X12_lastsOf_109 {X : jX} {D : va_G} {ad : Nat → Nat} {cy : Nat → ClassId} (C : jC X (jMain D ad cy) RX12 cX12_lastsOf (some .int) 7 2 43) {z : Int32 × jS} (Q : jRet X (jMain D ad cy) (some (.int z.1), z.2)) {g : Int32 → Int32 → Int32 → jS → Option (Int32 × jS)} (hg : ∀ (x1 : Int32) (x2 : Int32) (x3 : Int32) (S : jS), g x1 x2 x3 S = some z → jJ X (jMain D ad cy) 4 [(0, .ref (ad 41)), (1, .int x1), (2, .int x2), (3, .int x3)] [] S) {k115 : Int32 → jS → Option (Int32 × jS)} (hk115 : ∀ (x2 : Int32) (S : jS), k115 x2 S = some z → jJ X (jMain D ad cy) 115 [(2, .int x2)] [] S) (x1 : Int32) (x2 : Int32) (x3 : Int32) (S : jS) (hE : f_X12_lastsOf_109 g k115 x1 x2 x3 S = some z) : jJ X (jMain D ad cy) 109 [(0, .ref (ad 41)), (1, .int x1), (2, .int x2), (3, .int x3)] [] S := by
  unfold f_X12_lastsOf_109 at hE
  refine j_iinc (v := (x3 + 1)) (lv' := [(3, .int (x3 + 1)), (0, .ref (ad 41)), (1, .int x1), (2, .int x2)]) C dX12_lastsOf_109 3 rfl (congrArg (fun w => x3 + w) jc_ic_1) (by decide) rfl ?_
  refine j_goto (tgt := 4) C dX12_lastsOf_112 rfl ?_
  refine j_sub [1, 2, 3, 0] rfl ?_
  exact hg x1 x2 (x3 + 1) S hE
set_option maxRecDepth 100000 in
theorem p_X12_lastsOf_86 {X : jX} {D : va_G} {ad : Nat → Nat} {cy : Nat → ClassId} (C : jC X (jMain D ad cy) RX12 cX12_lastsOf (some .int) 7 2 43) {z : Int32 × jS} (Q : jRet X (jMain D ad cy) (some (.int z.1), z.2)) {g : Int32 → Int32 → Int32 → Int32 → Int32 → Int32 → jS → Option (Int32 × jS)} (hg : ∀ (x1 : Int32) (x2 : Int32) (x3 : Int32) (x4 : Int32) (x5 : Int32) (x6 : Int32) (S : jS), g x1 x2 x3 x4 x5 x6 S = some z → jJ X (jMain D ad cy) 43 [(0, .ref (ad 41)), (1, .int x1), (2, .int x2), (3, .int x3), (4, .int x4), (5, .int x5), (6, .int x6)] [] S) {k94 : Int32 → Int32 → Int32 → Int32 → jS → Option (Int32 × jS)} (hk94 : ∀ (x1 : Int32) (x2 : Int32) (x3 : Int32) (x5 : Int32) (S : jS), k94 x1 x2 x3 x5 S = some z → jJ X (jMain D ad cy) 94 [(0, .ref (ad 41)), (1, .int x1), (2, .int x2), (3, .int x3), (5, .int x5)] [] S) (a0 : Int32) (x1 : Int32) (x2 : Int32) (x3 : Int32) (x4 : Int32) (x6 : Int32) (S : jS) (hE : f_X12_lastsOf_86 g k94 a0 x1 x2 x3 x4 x6 S = some z) : jJ X (jMain D ad cy) 86 [(0, .ref (ad 41)), (1, .int x1), (2, .int x2), (3, .int x3), (4, .int x4), (6, .int x6)] [.int a0] S := by
  unfold f_X12_lastsOf_86 at hE
  refine j_istore (lv' := [(5, .int a0), (0, .ref (ad 41)), (1, .int x1), (2, .int x2), (3, .int x3), (4, .int x4), (6, .int x6)]) C dX12_lastsOf_86 (by decide) rfl ?_
  refine j_iinc (v := (x6 + 1)) (lv' := [(6, .int (x6 + 1)), (5, .int a0), (0, .ref (ad 41)), (1, .int x1), (2, .int x2), (3, .int x3), (4, .int x4)]) C dX12_lastsOf_88 6 rfl (congrArg (fun w => x6 + w) jc_ic_1) (by decide) rfl ?_
  refine j_goto (tgt := 43) C dX12_lastsOf_91 rfl ?_
  refine j_sub [2, 3, 4, 5, 6, 1, 0] rfl ?_
  exact hg x1 x2 x3 x4 a0 (x6 + 1) S hE
set_option maxRecDepth 100000 in
theorem p_X12_lastsOf_81 {X : jX} {D : va_G} {ad : Nat → Nat} {cy : Nat → ClassId} (C : jC X (jMain D ad cy) RX12 cX12_lastsOf (some .int) 7 2 43) {z : Int32 × jS} (Q : jRet X (jMain D ad cy) (some (.int z.1), z.2)) {g : Int32 → Int32 → Int32 → Int32 → Int32 → Int32 → jS → Option (Int32 × jS)} (hg : ∀ (x1 : Int32) (x2 : Int32) (x3 : Int32) (x4 : Int32) (x5 : Int32) (x6 : Int32) (S : jS), g x1 x2 x3 x4 x5 x6 S = some z → jJ X (jMain D ad cy) 43 [(0, .ref (ad 41)), (1, .int x1), (2, .int x2), (3, .int x3), (4, .int x4), (5, .int x5), (6, .int x6)] [] S) {k94 : Int32 → Int32 → Int32 → Int32 → jS → Option (Int32 × jS)} (hk94 : ∀ (x1 : Int32) (x2 : Int32) (x3 : Int32) (x5 : Int32) (S : jS), k94 x1 x2 x3 x5 S = some z → jJ X (jMain D ad cy) 94 [(0, .ref (ad 41)), (1, .int x1), (2, .int x2), (3, .int x3), (5, .int x5)] [] S) (x1 : Int32) (x2 : Int32) (x3 : Int32) (x4 : Int32) (x6 : Int32) (S : jS) (hE : f_X12_lastsOf_81 g k94 x1 x2 x3 x4 x6 S = some z) : jJ X (jMain D ad cy) 81 [(0, .ref (ad 41)), (1, .int x1), (2, .int x2), (3, .int x3), (4, .int x4), (6, .int x6)] [] S := by
  unfold f_X12_lastsOf_81 at hE
  refine j_iconst (v := 1) C dX12_lastsOf_81 jc_ic_1 ?_
  refine j_goto (tgt := 86) C dX12_lastsOf_82 rfl ?_
  exact p_X12_lastsOf_86 C Q hg hk94 1 x1 x2 x3 x4 x6 S hE
set_option maxRecDepth 100000 in
theorem p_X12_lastsOf_85 {X : jX} {D : va_G} {ad : Nat → Nat} {cy : Nat → ClassId} (C : jC X (jMain D ad cy) RX12 cX12_lastsOf (some .int) 7 2 43) {z : Int32 × jS} (Q : jRet X (jMain D ad cy) (some (.int z.1), z.2)) {g : Int32 → Int32 → Int32 → Int32 → Int32 → Int32 → jS → Option (Int32 × jS)} (hg : ∀ (x1 : Int32) (x2 : Int32) (x3 : Int32) (x4 : Int32) (x5 : Int32) (x6 : Int32) (S : jS), g x1 x2 x3 x4 x5 x6 S = some z → jJ X (jMain D ad cy) 43 [(0, .ref (ad 41)), (1, .int x1), (2, .int x2), (3, .int x3), (4, .int x4), (5, .int x5), (6, .int x6)] [] S) {k94 : Int32 → Int32 → Int32 → Int32 → jS → Option (Int32 × jS)} (hk94 : ∀ (x1 : Int32) (x2 : Int32) (x3 : Int32) (x5 : Int32) (S : jS), k94 x1 x2 x3 x5 S = some z → jJ X (jMain D ad cy) 94 [(0, .ref (ad 41)), (1, .int x1), (2, .int x2), (3, .int x3), (5, .int x5)] [] S) (x1 : Int32) (x2 : Int32) (x3 : Int32) (x4 : Int32) (x6 : Int32) (S : jS) (hE : f_X12_lastsOf_85 g k94 x1 x2 x3 x4 x6 S = some z) : jJ X (jMain D ad cy) 85 [(0, .ref (ad 41)), (1, .int x1), (2, .int x2), (3, .int x3), (4, .int x4), (6, .int x6)] [] S := by
  unfold f_X12_lastsOf_85 at hE
  refine j_iconst (v := 0) C dX12_lastsOf_85 jc_ic_0 ?_
  exact p_X12_lastsOf_86 C Q hg hk94 0 x1 x2 x3 x4 x6 S hE
set_option maxRecDepth 100000 in
theorem p_X12_lastsOf_43 {X : jX} {D : va_G} {ad : Nat → Nat} {cy : Nat → ClassId} (C : jC X (jMain D ad cy) RX12 cX12_lastsOf (some .int) 7 2 43) {z : Int32 × jS} (Q : jRet X (jMain D ad cy) (some (.int z.1), z.2)) {g : Int32 → Int32 → Int32 → Int32 → Int32 → Int32 → jS → Option (Int32 × jS)} (hg : ∀ (x1 : Int32) (x2 : Int32) (x3 : Int32) (x4 : Int32) (x5 : Int32) (x6 : Int32) (S : jS), g x1 x2 x3 x4 x5 x6 S = some z → jJ X (jMain D ad cy) 43 [(0, .ref (ad 41)), (1, .int x1), (2, .int x2), (3, .int x3), (4, .int x4), (5, .int x5), (6, .int x6)] [] S) {k94 : Int32 → Int32 → Int32 → Int32 → jS → Option (Int32 × jS)} (hk94 : ∀ (x1 : Int32) (x2 : Int32) (x3 : Int32) (x5 : Int32) (S : jS), k94 x1 x2 x3 x5 S = some z → jJ X (jMain D ad cy) 94 [(0, .ref (ad 41)), (1, .int x1), (2, .int x2), (3, .int x3), (5, .int x5)] [] S) (x1 : Int32) (x2 : Int32) (x3 : Int32) (x4 : Int32) (x5 : Int32) (x6 : Int32) (S : jS) (hE : f_X12_lastsOf_43 g k94 x1 x2 x3 x4 x5 x6 S = some z) : jJ X (jMain D ad cy) 43 [(0, .ref (ad 41)), (1, .int x1), (2, .int x2), (3, .int x3), (4, .int x4), (5, .int x5), (6, .int x6)] [] S := by
  unfold f_X12_lastsOf_43 at hE
  refine j_iload C dX12_lastsOf_43 6 rfl ?_
  refine j_bipush (v := 8) C dX12_lastsOf_45 jc_bp_8 ?_
  refine j_icmp_ge (tgt := 94) C dX12_lastsOf_47 rfl hE (fun hE => ?_) (fun hE => ?_)
  · refine j_sub [0, 1, 2, 3, 5] rfl ?_
    exact hk94 x1 x2 x3 x5 S hE
  · refine j_iload C dX12_lastsOf_50 5 rfl ?_
    refine j_if_ne (tgt := 81) C dX12_lastsOf_52 rfl hE (fun hE => ?_) (fun hE => ?_)
    · refine j_sub [0, 1, 2, 3, 4, 6] rfl ?_
      exact p_X12_lastsOf_81 C Q hg hk94 x1 x2 x3 x4 x6 S hE
    · refine j_aload_n C dX12_lastsOf_55 0 rfl ?_
      refine g_X12_39_41 C dX12_lastsOf_56 ?_
      refine j_iload C dX12_lastsOf_59 4 rfl ?_
      refine l_50 C dX12_lastsOf_61 hE (fun v1 hE => ?_)
      refine j_iload C dX12_lastsOf_62 6 rfl ?_
      refine j_ishr C dX12_lastsOf_64 ?_
      refine j_iconst (v := 1) C dX12_lastsOf_65 jc_ic_1 ?_
      refine j_iand C dX12_lastsOf_66 ?_
      refine j_iconst (v := 1) C dX12_lastsOf_67 jc_ic_1 ?_
      refine j_icmp_ne (tgt := 85) C dX12_lastsOf_68 rfl hE (fun hE => ?_) (fun hE => ?_)
      · refine j_sub [0, 1, 2, 3, 4, 6] rfl ?_
        exact p_X12_lastsOf_85 C Q hg hk94 x1 x2 x3 x4 x6 S hE
      · refine j_aload_n C dX12_lastsOf_71 0 rfl ?_
        refine j_iload_n C dX12_lastsOf_72 3 rfl ?_
        refine j_iload C dX12_lastsOf_73 6 rfl ?_
        refine k_X12_166_X12_areApart C dX12_lastsOf_75 hE (Nat.le_of_ble_eq_true rfl) (Nat.le_of_ble_eq_true rfl) (Nat.le_of_ble_eq_true rfl) (fun v3 S2 hE => ?_)
        refine j_if_eq (tgt := 85) C dX12_lastsOf_78 rfl hE (fun hE => ?_) (fun hE => ?_)
        · refine j_sub [0, 1, 2, 3, 4, 6] rfl ?_
          exact p_X12_lastsOf_85 C Q hg hk94 x1 x2 x3 x4 x6 S2 hE
        · refine j_sub [0, 1, 2, 3, 4, 6] rfl ?_
          exact p_X12_lastsOf_81 C Q hg hk94 x1 x2 x3 x4 x6 S2 hE
theorem q_X12_lastsOf_43 {X : jX} {D : va_G} {ad : Nat → Nat} {cy : Nat → ClassId} (C : jC X (jMain D ad cy) RX12 cX12_lastsOf (some .int) 7 2 43) {z : Int32 × jS} (Q : jRet X (jMain D ad cy) (some (.int z.1), z.2)) {k94 : Int32 → Int32 → Int32 → Int32 → jS → Option (Int32 × jS)} (hk94 : ∀ (x1 : Int32) (x2 : Int32) (x3 : Int32) (x5 : Int32) (S : jS), k94 x1 x2 x3 x5 S = some z → jJ X (jMain D ad cy) 94 [(0, .ref (ad 41)), (1, .int x1), (2, .int x2), (3, .int x3), (5, .int x5)] [] S) (x1 : Int32) (x2 : Int32) (x3 : Int32) (x4 : Int32) (x5 : Int32) (x6 : Int32) (S : jS) (hE : lp_X12_lastsOf_43 k94 x1 x2 x3 x4 x5 x6 S = some z) : jJ X (jMain D ad cy) 43 [(0, .ref (ad 41)), (1, .int x1), (2, .int x2), (3, .int x3), (4, .int x4), (5, .int x5), (6, .int x6)] [] S :=
  jloop_P (α := Int32 × Int32 × Int32 × Int32 × Int32 × Int32 × jS) (B := (fun g q => f_X12_lastsOf_43 (fun x1 x2 x3 x4 x5 x6 S => g (x1, x2, x3, x4, x5, x6, S)) k94 q.1 q.2.1 q.2.2.1 q.2.2.2.1 q.2.2.2.2.1 q.2.2.2.2.2.1 q.2.2.2.2.2.2)) (P := fun q => jJ X (jMain D ad cy) 43 [(0, .ref (ad 41)), (1, .int q.1), (2, .int q.2.1), (3, .int q.2.2.1), (4, .int q.2.2.2.1), (5, .int q.2.2.2.2.1), (6, .int q.2.2.2.2.2.1)] [] q.2.2.2.2.2.2) (fun g q hg h => p_X12_lastsOf_43 C Q (g := fun x1 x2 x3 x4 x5 x6 S => g (x1, x2, x3, x4, x5, x6, S)) (fun x1 x2 x3 x4 x5 x6 S h => hg (x1, x2, x3, x4, x5, x6, S) h) hk94 q.1 q.2.1 q.2.2.1 q.2.2.2.1 q.2.2.2.2.1 q.2.2.2.2.2.1 q.2.2.2.2.2.2 h) jN (x1, x2, x3, x4, x5, x6, S) hE
set_option maxRecDepth 100000 in
theorem p_X12_lastsOf_107 {X : jX} {D : va_G} {ad : Nat → Nat} {cy : Nat → ClassId} (C : jC X (jMain D ad cy) RX12 cX12_lastsOf (some .int) 7 2 43) {z : Int32 × jS} (Q : jRet X (jMain D ad cy) (some (.int z.1), z.2)) {g : Int32 → Int32 → Int32 → jS → Option (Int32 × jS)} (hg : ∀ (x1 : Int32) (x2 : Int32) (x3 : Int32) (S : jS), g x1 x2 x3 S = some z → jJ X (jMain D ad cy) 4 [(0, .ref (ad 41)), (1, .int x1), (2, .int x2), (3, .int x3)] [] S) {k115 : Int32 → jS → Option (Int32 × jS)} (hk115 : ∀ (x2 : Int32) (S : jS), k115 x2 S = some z → jJ X (jMain D ad cy) 115 [(2, .int x2)] [] S) (a0 : Int32) (a1 : Int32) (x1 : Int32) (x3 : Int32) (S : jS) (hE : f_X12_lastsOf_107 g k115 a0 a1 x1 x3 S = some z) : jJ X (jMain D ad cy) 107 [(0, .ref (ad 41)), (1, .int x1), (3, .int x3)] [.int a0, .int a1] S := by
  unfold f_X12_lastsOf_107 at hE
  refine j_ior C dX12_lastsOf_107 ?_
  refine j_istore_n (i := 2) (lv' := [(2, .int (a1 ||| a0)), (0, .ref (ad 41)), (1, .int x1), (3, .int x3)]) C dX12_lastsOf_108 rfl (by decide) rfl ?_
  refine j_sub [1, 2, 0, 3] rfl ?_
  exact p_X12_lastsOf_109 C Q hg hk115 x1 (a1 ||| a0) x3 S hE
set_option maxRecDepth 100000 in
theorem p_X12_lastsOf_94 {X : jX} {D : va_G} {ad : Nat → Nat} {cy : Nat → ClassId} (C : jC X (jMain D ad cy) RX12 cX12_lastsOf (some .int) 7 2 43) {z : Int32 × jS} (Q : jRet X (jMain D ad cy) (some (.int z.1), z.2)) {g : Int32 → Int32 → Int32 → jS → Option (Int32 × jS)} (hg : ∀ (x1 : Int32) (x2 : Int32) (x3 : Int32) (S : jS), g x1 x2 x3 S = some z → jJ X (jMain D ad cy) 4 [(0, .ref (ad 41)), (1, .int x1), (2, .int x2), (3, .int x3)] [] S) {k115 : Int32 → jS → Option (Int32 × jS)} (hk115 : ∀ (x2 : Int32) (S : jS), k115 x2 S = some z → jJ X (jMain D ad cy) 115 [(2, .int x2)] [] S) (x1 : Int32) (x2 : Int32) (x3 : Int32) (x5 : Int32) (S : jS) (hE : f_X12_lastsOf_94 g k115 x1 x2 x3 x5 S = some z) : jJ X (jMain D ad cy) 94 [(0, .ref (ad 41)), (1, .int x1), (2, .int x2), (3, .int x3), (5, .int x5)] [] S := by
  unfold f_X12_lastsOf_94 at hE
  refine j_iload_n C dX12_lastsOf_94 2 rfl ?_
  refine j_iload C dX12_lastsOf_95 4 rfl ?_
  refine j_if_eq (tgt := 106) C dX12_lastsOf_97 rfl hE (fun hE => ?_) (fun hE => ?_)
  · refine j_iconst (v := 0) C dX12_lastsOf_106 jc_ic_0 ?_
    refine j_sub [0, 1, 3] rfl ?_
    exact p_X12_lastsOf_107 C Q hg hk115 0 x2 x1 x3 S hE
  · refine j_iconst (v := 1) C dX12_lastsOf_100 jc_ic_1 ?_
    refine j_iload_n C dX12_lastsOf_101 3 rfl ?_
    refine j_ishl C dX12_lastsOf_102 ?_
    refine j_goto (tgt := 107) C dX12_lastsOf_103 rfl ?_
    refine j_sub [0, 1, 3] rfl ?_
    exact p_X12_lastsOf_107 C Q hg hk115 (1 <<< (x3 &&& 31)) x2 x1 x3 S hE
set_option maxRecDepth 100000 in
theorem p_X12_lastsOf_38 {X : jX} {D : va_G} {ad : Nat → Nat} {cy : Nat → ClassId} (C : jC X (jMain D ad cy) RX12 cX12_lastsOf (some .int) 7 2 43) {z : Int32 × jS} (Q : jRet X (jMain D ad cy) (some (.int z.1), z.2)) {g : Int32 → Int32 → Int32 → jS → Option (Int32 × jS)} (hg : ∀ (x1 : Int32) (x2 : Int32) (x3 : Int32) (S : jS), g x1 x2 x3 S = some z → jJ X (jMain D ad cy) 4 [(0, .ref (ad 41)), (1, .int x1), (2, .int x2), (3, .int x3)] [] S) {k115 : Int32 → jS → Option (Int32 × jS)} (hk115 : ∀ (x2 : Int32) (S : jS), k115 x2 S = some z → jJ X (jMain D ad cy) 115 [(2, .int x2)] [] S) (a0 : Int32) (x1 : Int32) (x2 : Int32) (x3 : Int32) (x4 : Int32) (S : jS) (hE : f_X12_lastsOf_38 g k115 a0 x1 x2 x3 x4 S = some z) : jJ X (jMain D ad cy) 38 [(0, .ref (ad 41)), (1, .int x1), (2, .int x2), (3, .int x3), (4, .int x4)] [.int a0] S := by
  unfold f_X12_lastsOf_38 at hE
  refine j_istore (lv' := [(5, .int a0), (0, .ref (ad 41)), (1, .int x1), (2, .int x2), (3, .int x3), (4, .int x4)]) C dX12_lastsOf_38 (by decide) rfl ?_
  refine j_iconst (v := 0) C dX12_lastsOf_40 jc_ic_0 ?_
  refine j_istore (lv' := [(6, .int 0), (5, .int a0), (0, .ref (ad 41)), (1, .int x1), (2, .int x2), (3, .int x3), (4, .int x4)]) C dX12_lastsOf_41 (by decide) rfl ?_
  refine j_sub [2, 3, 4, 5, 6, 1, 0] rfl ?_
  exact q_X12_lastsOf_43 C Q (p_X12_lastsOf_94 C Q hg hk115) x1 x2 x3 x4 a0 0 S hE
set_option maxRecDepth 100000 in
theorem p_X12_lastsOf_4 {X : jX} {D : va_G} {ad : Nat → Nat} {cy : Nat → ClassId} (C : jC X (jMain D ad cy) RX12 cX12_lastsOf (some .int) 7 2 43) {z : Int32 × jS} (Q : jRet X (jMain D ad cy) (some (.int z.1), z.2)) {g : Int32 → Int32 → Int32 → jS → Option (Int32 × jS)} (hg : ∀ (x1 : Int32) (x2 : Int32) (x3 : Int32) (S : jS), g x1 x2 x3 S = some z → jJ X (jMain D ad cy) 4 [(0, .ref (ad 41)), (1, .int x1), (2, .int x2), (3, .int x3)] [] S) {k115 : Int32 → jS → Option (Int32 × jS)} (hk115 : ∀ (x2 : Int32) (S : jS), k115 x2 S = some z → jJ X (jMain D ad cy) 115 [(2, .int x2)] [] S) (x1 : Int32) (x2 : Int32) (x3 : Int32) (S : jS) (hE : f_X12_lastsOf_4 g k115 x1 x2 x3 S = some z) : jJ X (jMain D ad cy) 4 [(0, .ref (ad 41)), (1, .int x1), (2, .int x2), (3, .int x3)] [] S := by
  unfold f_X12_lastsOf_4 at hE
  refine j_iload_n C dX12_lastsOf_4 3 rfl ?_
  refine j_bipush (v := 8) C dX12_lastsOf_5 jc_bp_8 ?_
  refine j_icmp_ge (tgt := 115) C dX12_lastsOf_7 rfl hE (fun hE => ?_) (fun hE => ?_)
  · refine j_sub [2] rfl ?_
    exact hk115 x2 S hE
  · refine j_iload_n C dX12_lastsOf_10 1 rfl ?_
    refine j_iload_n C dX12_lastsOf_11 3 rfl ?_
    refine j_ishr C dX12_lastsOf_12 ?_
    refine j_iconst (v := 1) C dX12_lastsOf_13 jc_ic_1 ?_
    refine j_iand C dX12_lastsOf_14 ?_
    refine j_iconst (v := 1) C dX12_lastsOf_15 jc_ic_1 ?_
    refine j_icmp_ne (tgt := 109) C dX12_lastsOf_16 rfl hE (fun hE => ?_) (fun hE => ?_)
    · exact p_X12_lastsOf_109 C Q hg hk115 x1 x2 x3 S hE
    · refine j_iload_n C dX12_lastsOf_19 1 rfl ?_
      refine j_iconst (v := 1) C dX12_lastsOf_20 jc_ic_1 ?_
      refine j_iload_n C dX12_lastsOf_21 3 rfl ?_
      refine j_ishl C dX12_lastsOf_22 ?_
      refine j_iconst (v := (-1)) C dX12_lastsOf_23 jc_ic_m1 ?_
      refine j_ixor C dX12_lastsOf_24 ?_
      refine j_iand C dX12_lastsOf_25 ?_
      refine j_istore (lv' := [(4, .int (x1 &&& ((1 <<< (x3 &&& 31)) ^^^ (-1)))), (0, .ref (ad 41)), (1, .int x1), (2, .int x2), (3, .int x3)]) C dX12_lastsOf_26 (by decide) rfl ?_
      refine j_iload C dX12_lastsOf_28 0 rfl ?_
      refine j_if_ne (tgt := 37) C dX12_lastsOf_30 rfl hE (fun hE => ?_) (fun hE => ?_)
      · refine j_iconst (v := 0) C dX12_lastsOf_37 jc_ic_0 ?_
        refine j_sub [1, 2, 3, 4, 0] rfl ?_
        exact p_X12_lastsOf_38 C Q hg hk115 0 x1 x2 x3 (x1 &&& ((1 <<< (x3 &&& 31)) ^^^ (-1))) S hE
      · refine j_iconst (v := 1) C dX12_lastsOf_33 jc_ic_1 ?_
        refine j_goto (tgt := 38) C dX12_lastsOf_34 rfl ?_
        refine j_sub [1, 2, 3, 4, 0] rfl ?_
        exact p_X12_lastsOf_38 C Q hg hk115 1 x1 x2 x3 (x1 &&& ((1 <<< (x3 &&& 31)) ^^^ (-1))) S hE
theorem q_X12_lastsOf_4 {X : jX} {D : va_G} {ad : Nat → Nat} {cy : Nat → ClassId} (C : jC X (jMain D ad cy) RX12 cX12_lastsOf (some .int) 7 2 43) {z : Int32 × jS} (Q : jRet X (jMain D ad cy) (some (.int z.1), z.2)) {k115 : Int32 → jS → Option (Int32 × jS)} (hk115 : ∀ (x2 : Int32) (S : jS), k115 x2 S = some z → jJ X (jMain D ad cy) 115 [(2, .int x2)] [] S) (x1 : Int32) (x2 : Int32) (x3 : Int32) (S : jS) (hE : lp_X12_lastsOf_4 k115 x1 x2 x3 S = some z) : jJ X (jMain D ad cy) 4 [(0, .ref (ad 41)), (1, .int x1), (2, .int x2), (3, .int x3)] [] S :=
  jloop_P (α := Int32 × Int32 × Int32 × jS) (B := (fun g q => f_X12_lastsOf_4 (fun x1 x2 x3 S => g (x1, x2, x3, S)) k115 q.1 q.2.1 q.2.2.1 q.2.2.2)) (P := fun q => jJ X (jMain D ad cy) 4 [(0, .ref (ad 41)), (1, .int q.1), (2, .int q.2.1), (3, .int q.2.2.1)] [] q.2.2.2) (fun g q hg h => p_X12_lastsOf_4 C Q (g := fun x1 x2 x3 S => g (x1, x2, x3, S)) (fun x1 x2 x3 S h => hg (x1, x2, x3, S) h) hk115 q.1 q.2.1 q.2.2.1 q.2.2.2 h) jN (x1, x2, x3, S) hE
set_option maxRecDepth 100000 in
theorem p_X12_lastsOf_115 {X : jX} {D : va_G} {ad : Nat → Nat} {cy : Nat → ClassId} (C : jC X (jMain D ad cy) RX12 cX12_lastsOf (some .int) 7 2 43) {z : Int32 × jS} (Q : jRet X (jMain D ad cy) (some (.int z.1), z.2))  (x2 : Int32) (S : jS) (hE : f_X12_lastsOf_115  x2 S = some z) : jJ X (jMain D ad cy) 115 [(2, .int x2)] [] S := by
  unfold f_X12_lastsOf_115 at hE
  refine j_iload_n C dX12_lastsOf_115 0 rfl ?_
  exact j_iret C Q dX12_lastsOf_116 hE
set_option maxRecDepth 100000 in
theorem p_X12_lastsOf_e {X : jX} {D : va_G} {ad : Nat → Nat} {cy : Nat → ClassId} (C : jC X (jMain D ad cy) RX12 cX12_lastsOf (some .int) 7 2 43) {z : Int32 × jS} (Q : jRet X (jMain D ad cy) (some (.int z.1), z.2))  (x1 : Int32) (S : jS) (hE : f_X12_lastsOf_e  x1 S = some z) : jJ X (jMain D ad cy) 0 [(0, .ref (ad 41)), (1, .int x1)] [] S := by
  unfold f_X12_lastsOf_e at hE
  refine j_iconst (v := 0) C dX12_lastsOf_0 jc_ic_0 ?_
  refine j_istore_n (i := 2) (lv' := [(2, .int 0), (0, .ref (ad 41)), (1, .int x1)]) C dX12_lastsOf_1 rfl (by decide) rfl ?_
  refine j_iconst (v := 0) C dX12_lastsOf_2 jc_ic_0 ?_
  refine j_istore_n (i := 3) (lv' := [(3, .int 0), (2, .int 0), (0, .ref (ad 41)), (1, .int x1)]) C dX12_lastsOf_3 rfl (by decide) rfl ?_
  refine j_sub [2, 3, 1, 0] rfl ?_
  exact q_X12_lastsOf_4 C Q (p_X12_lastsOf_115 C Q ) x1 0 0 S hE
theorem c_X12_lastsOf {l : Launch} {D : va_G} {ad : Nat → Nat} {cy : Nat → ClassId} (hO : jOk (jMain D ad cy)) (x1 : Int32) (S : jS) {z : Int32 × jS} (hz : f_X12_lastsOf x1 S = some z) : Met l yX12_lastsOf (.code yX12_lastsOf cX12_lastsOf 7 (some .int) :: jT) { frames := 2, cells := 0, slots := 0, locals := 43 } (va_Pc [.ref (ad 41), .int x1] (jInv (jMain D ad cy) S)) (jQ (jMain D ad cy) (some (.int z.1), z.2)) 0 0 (yA (jMain D ad cy)) :=
  jMet hO (by decide +kernel) rfl (Nat.le_of_ble_eq_true rfl) (fun X _ C Q => p_X12_lastsOf_e C Q x1 S hz)
theorem k_X12_169_X12_lastsOf {X : jX} {D : va_G} {ad : Nat → Nat} {cy : Nat → ClassId} {cc : ByteArray} {ret : Option FieldType} {nL fr lo pc : Nat} {lv : List (Nat × Value)} {st : List Value} {S : jS} {β : Type} {z : β} (C : jC X (jMain D ad cy) RX12 cc ret nL fr lo) {a0 : Int32} {E : Int32 → jS → Option β} (d : decode cc pc = .ok (.invokevirtual 169, 3)) (hE : jcl (f_X12_lastsOf a0 S) E = some z) (hfr : 3 ≤ fr) (hlo : 69 ≤ lo) (hst : (st.map fun v => v.category).sum ≤ 8) (K : ∀ (v : Int32) (S1 : jS), E v S1 = some z → jJ X (jMain D ad cy) (pc + 3) lv (.int v :: st) S1) : jJ X (jMain D ad cy) pc lv (.int a0 :: .ref (ad 41) :: st) S := by
  obtain ⟨v, h1, h2⟩ := jcl_some hE
  exact j_callV (k := 41) (ci := 12) (T := TX12) (N := 25) (n := 1) (As := [.int a0]) C (c_X12_lastsOf C.2.2.2.2.2.2.1 a0 S h1) tw_1110 tw_1112 tw_52 tw_82 tw_1113 (by decide +kernel) rfl (by decide : 41 < 56) rfl rfl hfr hlo hst rfl d (K _ _ h2)
set_option maxRecDepth 100000 in
theorem p_X12_longest_71 {X : jX} {D : va_G} {ad : Nat → Nat} {cy : Nat → ClassId} (C : jC X (jMain D ad cy) RX12 cX12_longest (some .int) 4 3 69) {z : Int32 × jS} (Q : jRet X (jMain D ad cy) (some (.int z.1), z.2)) {g : Int32 → Int32 → Int32 → jS → Option (Int32 × jS)} (hg : ∀ (x1 : Int32) (x2 : Int32) (x3 : Int32) (S : jS), g x1 x2 x3 S = some z → jJ X (jMain D ad cy) 16 [(0, .ref (ad 41)), (1, .int x1), (2, .int x2), (3, .int x3)] [] S) {k78 : Int32 → jS → Option (Int32 × jS)} (hk78 : ∀ (x2 : Int32) (S : jS), k78 x2 S = some z → jJ X (jMain D ad cy) 78 [(2, .int x2)] [] S) (a0 : Int32) (x1 : Int32) (x3 : Int32) (S : jS) (hE : f_X12_longest_71 g k78 a0 x1 x3 S = some z) : jJ X (jMain D ad cy) 71 [(0, .ref (ad 41)), (1, .int x1), (3, .int x3)] [.int a0] S := by
  unfold f_X12_longest_71 at hE
  refine j_istore_n (i := 2) (lv' := [(2, .int a0), (0, .ref (ad 41)), (1, .int x1), (3, .int x3)]) C dX12_longest_71 rfl (by decide) rfl ?_
  refine j_iinc (v := (x3 + 1)) (lv' := [(3, .int (x3 + 1)), (2, .int a0), (0, .ref (ad 41)), (1, .int x1)]) C dX12_longest_72 3 rfl (congrArg (fun w => x3 + w) jc_ic_1) (by decide) rfl ?_
  refine j_goto (tgt := 16) C dX12_longest_75 rfl ?_
  refine j_sub [2, 3, 1, 0] rfl ?_
  exact hg x1 a0 (x3 + 1) S hE
set_option maxRecDepth 100000 in
theorem p_X12_longest_70 {X : jX} {D : va_G} {ad : Nat → Nat} {cy : Nat → ClassId} (C : jC X (jMain D ad cy) RX12 cX12_longest (some .int) 4 3 69) {z : Int32 × jS} (Q : jRet X (jMain D ad cy) (some (.int z.1), z.2)) {g : Int32 → Int32 → Int32 → jS → Option (Int32 × jS)} (hg : ∀ (x1 : Int32) (x2 : Int32) (x3 : Int32) (S : jS), g x1 x2 x3 S = some z → jJ X (jMain D ad cy) 16 [(0, .ref (ad 41)), (1, .int x1), (2, .int x2), (3, .int x3)] [] S) {k78 : Int32 → jS → Option (Int32 × jS)} (hk78 : ∀ (x2 : Int32) (S : jS), k78 x2 S = some z → jJ X (jMain D ad cy) 78 [(2, .int x2)] [] S) (x1 : Int32) (x2 : Int32) (x3 : Int32) (S : jS) (hE : f_X12_longest_70 g k78 x1 x2 x3 S = some z) : jJ X (jMain D ad cy) 70 [(0, .ref (ad 41)), (1, .int x1), (2, .int x2), (3, .int x3)] [] S := by
  unfold f_X12_longest_70 at hE
  refine j_iload_n C dX12_longest_70 2 rfl ?_
  refine j_sub [0, 1, 3] rfl ?_
  exact p_X12_longest_71 C Q hg hk78 x2 x1 x3 S hE
set_option maxRecDepth 100000 in
theorem p_X12_longest_45 {X : jX} {D : va_G} {ad : Nat → Nat} {cy : Nat → ClassId} (C : jC X (jMain D ad cy) RX12 cX12_longest (some .int) 4 3 69) {z : Int32 × jS} (Q : jRet X (jMain D ad cy) (some (.int z.1), z.2)) {g : Int32 → Int32 → Int32 → jS → Option (Int32 × jS)} (hg : ∀ (x1 : Int32) (x2 : Int32) (x3 : Int32) (S : jS), g x1 x2 x3 S = some z → jJ X (jMain D ad cy) 16 [(0, .ref (ad 41)), (1, .int x1), (2, .int x2), (3, .int x3)] [] S) {k78 : Int32 → jS → Option (Int32 × jS)} (hk78 : ∀ (x2 : Int32) (S : jS), k78 x2 S = some z → jJ X (jMain D ad cy) 78 [(2, .int x2)] [] S) (a0 : Int32) (a1 : Int32) (x1 : Int32) (x2 : Int32) (x3 : Int32) (S : jS) (hE : f_X12_longest_45 g k78 a0 a1 x1 x2 x3 S = some z) : jJ X (jMain D ad cy) 45 [(0, .ref (ad 41)), (1, .int x1), (2, .int x2), (3, .int x3)] [.int a0, .int a1, .ref (ad 50)] S := by
  unfold f_X12_longest_45 at hE
  refine s_50 C dX12_longest_45 hE (fun S1 hE => ?_)
  refine j_aload_n C dX12_longest_46 0 rfl ?_
  refine g_X12_39_41 C dX12_longest_47 ?_
  refine j_iload_n C dX12_longest_50 3 rfl ?_
  refine l_50 C dX12_longest_51 hE (fun v2 hE => ?_)
  refine j_if_eq (tgt := 70) C dX12_longest_52 rfl hE (fun hE => ?_) (fun hE => ?_)
  · exact p_X12_longest_70 C Q hg hk78 x1 x2 x3 S1 hE
  · refine j_iload_n C dX12_longest_55 3 rfl ?_
    refine k_X12_95_X12_bits C dX12_longest_56 hE (Nat.le_of_ble_eq_true rfl) (Nat.le_of_ble_eq_true rfl) (Nat.le_of_ble_eq_true rfl) (fun v4 S3 hE => ?_)
    refine j_iload_n C dX12_longest_59 2 rfl ?_
    refine j_icmp_le (tgt := 70) C dX12_longest_60 rfl hE (fun hE => ?_) (fun hE => ?_)
    · exact p_X12_longest_70 C Q hg hk78 x1 x2 x3 S3 hE
    · refine j_iload_n C dX12_longest_63 3 rfl ?_
      refine k_X12_95_X12_bits C dX12_longest_64 hE (Nat.le_of_ble_eq_true rfl) (Nat.le_of_ble_eq_true rfl) (Nat.le_of_ble_eq_true rfl) (fun v6 S5 hE => ?_)
      refine j_goto (tgt := 71) C dX12_longest_67 rfl ?_
      refine j_sub [0, 1, 3] rfl ?_
      exact p_X12_longest_71 C Q hg hk78 v6 x1 x3 S5 hE
set_option maxRecDepth 100000 in
theorem p_X12_longest_16 {X : jX} {D : va_G} {ad : Nat → Nat} {cy : Nat → ClassId} (C : jC X (jMain D ad cy) RX12 cX12_longest (some .int) 4 3 69) {z : Int32 × jS} (Q : jRet X (jMain D ad cy) (some (.int z.1), z.2)) {g : Int32 → Int32 → Int32 → jS → Option (Int32 × jS)} (hg : ∀ (x1 : Int32) (x2 : Int32) (x3 : Int32) (S : jS), g x1 x2 x3 S = some z → jJ X (jMain D ad cy) 16 [(0, .ref (ad 41)), (1, .int x1), (2, .int x2), (3, .int x3)] [] S) {k78 : Int32 → jS → Option (Int32 × jS)} (hk78 : ∀ (x2 : Int32) (S : jS), k78 x2 S = some z → jJ X (jMain D ad cy) 78 [(2, .int x2)] [] S) (x1 : Int32) (x2 : Int32) (x3 : Int32) (S : jS) (hE : f_X12_longest_16 g k78 x1 x2 x3 S = some z) : jJ X (jMain D ad cy) 16 [(0, .ref (ad 41)), (1, .int x1), (2, .int x2), (3, .int x3)] [] S := by
  unfold f_X12_longest_16 at hE
  refine j_iload_n C dX12_longest_16 3 rfl ?_
  refine j_sipush (v := 256) C dX12_longest_17 jc_sp_256 ?_
  refine j_icmp_ge (tgt := 78) C dX12_longest_20 rfl hE (fun hE => ?_) (fun hE => ?_)
  · refine j_sub [2] rfl ?_
    exact hk78 x2 S hE
  · refine j_aload_n C dX12_longest_23 0 rfl ?_
    refine g_X12_39_41 C dX12_longest_24 ?_
    refine j_iload_n C dX12_longest_27 3 rfl ?_
    refine j_iload_n C dX12_longest_28 3 rfl ?_
    refine j_iload_n C dX12_longest_29 1 rfl ?_
    refine j_iconst (v := (-1)) C dX12_longest_30 jc_ic_m1 ?_
    refine j_ixor C dX12_longest_31 ?_
    refine j_iand C dX12_longest_32 ?_
    refine j_if_ne (tgt := 44) C dX12_longest_33 rfl hE (fun hE => ?_) (fun hE => ?_)
    · refine j_iconst (v := 0) C dX12_longest_44 jc_ic_0 ?_
      exact p_X12_longest_45 C Q hg hk78 0 x3 x1 x2 x3 S hE
    · refine j_aload_n C dX12_longest_36 0 rfl ?_
      refine j_iload_n C dX12_longest_37 3 rfl ?_
      refine k_X12_169_X12_lastsOf C dX12_longest_38 hE (Nat.le_of_ble_eq_true rfl) (Nat.le_of_ble_eq_true rfl) (Nat.le_of_ble_eq_true rfl) (fun v2 S1 hE => ?_)
      refine j_goto (tgt := 45) C dX12_longest_41 rfl ?_
      exact p_X12_longest_45 C Q hg hk78 v2 x3 x1 x2 x3 S1 hE
theorem q_X12_longest_16 {X : jX} {D : va_G} {ad : Nat → Nat} {cy : Nat → ClassId} (C : jC X (jMain D ad cy) RX12 cX12_longest (some .int) 4 3 69) {z : Int32 × jS} (Q : jRet X (jMain D ad cy) (some (.int z.1), z.2)) {k78 : Int32 → jS → Option (Int32 × jS)} (hk78 : ∀ (x2 : Int32) (S : jS), k78 x2 S = some z → jJ X (jMain D ad cy) 78 [(2, .int x2)] [] S) (x1 : Int32) (x2 : Int32) (x3 : Int32) (S : jS) (hE : lp_X12_longest_16 k78 x1 x2 x3 S = some z) : jJ X (jMain D ad cy) 16 [(0, .ref (ad 41)), (1, .int x1), (2, .int x2), (3, .int x3)] [] S :=
  jloop_P (α := Int32 × Int32 × Int32 × jS) (B := (fun g q => f_X12_longest_16 (fun x1 x2 x3 S => g (x1, x2, x3, S)) k78 q.1 q.2.1 q.2.2.1 q.2.2.2)) (P := fun q => jJ X (jMain D ad cy) 16 [(0, .ref (ad 41)), (1, .int q.1), (2, .int q.2.1), (3, .int q.2.2.1)] [] q.2.2.2) (fun g q hg h => p_X12_longest_16 C Q (g := fun x1 x2 x3 S => g (x1, x2, x3, S)) (fun x1 x2 x3 S h => hg (x1, x2, x3, S) h) hk78 q.1 q.2.1 q.2.2.1 q.2.2.2 h) jN (x1, x2, x3, S) hE
set_option maxRecDepth 100000 in
theorem p_X12_longest_78 {X : jX} {D : va_G} {ad : Nat → Nat} {cy : Nat → ClassId} (C : jC X (jMain D ad cy) RX12 cX12_longest (some .int) 4 3 69) {z : Int32 × jS} (Q : jRet X (jMain D ad cy) (some (.int z.1), z.2))  (x2 : Int32) (S : jS) (hE : f_X12_longest_78  x2 S = some z) : jJ X (jMain D ad cy) 78 [(2, .int x2)] [] S := by
  unfold f_X12_longest_78 at hE
  refine j_iload_n C dX12_longest_78 0 rfl ?_
  exact j_iret C Q dX12_longest_79 hE
set_option maxRecDepth 100000 in
theorem p_X12_longest_e {X : jX} {D : va_G} {ad : Nat → Nat} {cy : Nat → ClassId} (C : jC X (jMain D ad cy) RX12 cX12_longest (some .int) 4 3 69) {z : Int32 × jS} (Q : jRet X (jMain D ad cy) (some (.int z.1), z.2))   (S : jS) (hE : f_X12_longest_e   S = some z) : jJ X (jMain D ad cy) 0 [(0, .ref (ad 41))] [] S := by
  unfold f_X12_longest_e at hE
  refine j_aload_n C dX12_longest_0 0 rfl ?_
  refine k_X12_91_X12_lived C dX12_longest_1 hE (Nat.le_of_ble_eq_true rfl) (Nat.le_of_ble_eq_true rfl) (Nat.le_of_ble_eq_true rfl) (fun v2 S1 hE => ?_)
  refine j_istore_n (i := 1) (lv' := [(1, .int v2), (0, .ref (ad 41))]) C dX12_longest_4 rfl (by decide) rfl ?_
  refine j_iconst (v := 0) C dX12_longest_5 jc_ic_0 ?_
  refine j_istore_n (i := 2) (lv' := [(2, .int 0), (1, .int v2), (0, .ref (ad 41))]) C dX12_longest_6 rfl (by decide) rfl ?_
  refine j_aload_n C dX12_longest_7 2 rfl ?_
  refine g_X12_39_41 C dX12_longest_8 ?_
  refine j_iconst (v := 0) C dX12_longest_11 jc_ic_0 ?_
  refine j_iconst (v := 0) C dX12_longest_12 jc_ic_0 ?_
  refine s_50 C dX12_longest_13 hE (fun S3 hE => ?_)
  refine j_iconst (v := 1) C dX12_longest_14 jc_ic_1 ?_
  refine j_istore_n (i := 3) (lv' := [(3, .int 1), (2, .int 0), (1, .int v2), (0, .ref (ad 41))]) C dX12_longest_15 rfl (by decide) rfl ?_
  refine j_sub [3, 2, 1, 0] rfl ?_
  exact q_X12_longest_16 C Q (p_X12_longest_78 C Q ) v2 0 1 S3 hE
theorem c_X12_longest {l : Launch} {D : va_G} {ad : Nat → Nat} {cy : Nat → ClassId} (hO : jOk (jMain D ad cy))  (S : jS) {z : Int32 × jS} (hz : f_X12_longest  S = some z) : Met l yX12_longest (.code yX12_longest cX12_longest 4 (some .int) :: jT) { frames := 3, cells := 0, slots := 0, locals := 69 } (va_Pc [.ref (ad 41)] (jInv (jMain D ad cy) S)) (jQ (jMain D ad cy) (some (.int z.1), z.2)) 0 0 (yA (jMain D ad cy)) :=
  jMet hO (by decide +kernel) rfl (Nat.le_of_ble_eq_true rfl) (fun X _ C Q => p_X12_longest_e C Q  S hz)
set_option maxRecDepth 100000 in
theorem p_X4_settleApart_r22_55 {X : jX} {D : va_G} {ad : Nat → Nat} {cy : Nat → ClassId} (C : jC X (jMain D ad cy) RX4 cX4_settleApart (none) 4 6 137) {z : jS} (Q : jRet X (jMain D ad cy) (none, z)) {g : Int32 → Int32 → jS → Option (jS)} (hg : ∀ (x2 : Int32) (x3 : Int32) (S : jS), g x2 x3 S = some z → jJ X (jMain D ad cy) 18 [(0, .ref (ad 12)), (2, .int x2), (3, .int x3)] [] S) {k61 : Int32 → jS → Option (jS)} (hk61 : ∀ (x2 : Int32) (S : jS), k61 x2 S = some z → jJ X (jMain D ad cy) 61 [(0, .ref (ad 12)), (2, .int x2)] [] S) (x2 : Int32) (x3 : Int32) (S : jS) (hE : f_X4_settleApart_r22_55 g k61 x2 x3 S = some z) : jJ X (jMain D ad cy) 55 [(0, .ref (ad 12)), (2, .int x2), (3, .int x3)] [] S := by
  unfold f_X4_settleApart_r22_55 at hE
  refine j_iinc (v := (x3 + 1)) (lv' := [(3, .int (x3 + 1)), (0, .ref (ad 12)), (2, .int x2)]) C dX4_settleApart_55 2 rfl (congrArg (fun w => x3 + w) jc_ic_1) (by decide) rfl ?_
  refine j_goto (tgt := 18) C dX4_settleApart_58 rfl ?_
  refine j_sub [1, 2, 0] rfl ?_
  exact hg x2 (x3 + 1) S hE
set_option maxRecDepth 100000 in
theorem p_X4_settleApart_r22_18 {X : jX} {D : va_G} {ad : Nat → Nat} {cy : Nat → ClassId} (C : jC X (jMain D ad cy) RX4 cX4_settleApart (none) 4 6 137) {z : jS} (Q : jRet X (jMain D ad cy) (none, z)) {g : Int32 → Int32 → jS → Option (jS)} (hg : ∀ (x2 : Int32) (x3 : Int32) (S : jS), g x2 x3 S = some z → jJ X (jMain D ad cy) 18 [(0, .ref (ad 12)), (2, .int x2), (3, .int x3)] [] S) {k61 : Int32 → jS → Option (jS)} (hk61 : ∀ (x2 : Int32) (S : jS), k61 x2 S = some z → jJ X (jMain D ad cy) 61 [(0, .ref (ad 12)), (2, .int x2)] [] S) (x2 : Int32) (x3 : Int32) (S : jS) (hE : f_X4_settleApart_r22_18 g k61 x2 x3 S = some z) : jJ X (jMain D ad cy) 18 [(0, .ref (ad 12)), (2, .int x2), (3, .int x3)] [] S := by
  unfold f_X4_settleApart_r22_18 at hE
  refine j_iload_n C dX4_settleApart_18 2 rfl ?_
  refine j_aload_n C dX4_settleApart_19 0 rfl ?_
  refine g_X4_41_12 C dX4_settleApart_20 ?_
  refine j_icmp_ge (tgt := 61) C dX4_settleApart_23 rfl hE (fun hE => ?_) (fun hE => ?_)
  · refine j_sub [0, 1] rfl ?_
    exact hk61 x2 S hE
  · refine j_aload_n C dX4_settleApart_26 0 rfl ?_
    refine g_X4_9_12 C dX4_settleApart_27 ?_
    refine j_iload_n C dX4_settleApart_30 1 rfl ?_
    refine l_13 C dX4_settleApart_31 hE (fun v1 hE => ?_)
    refine j_aload_n C dX4_settleApart_32 0 rfl ?_
    refine g_X4_9_12 C dX4_settleApart_33 ?_
    refine j_iload_n C dX4_settleApart_36 2 rfl ?_
    refine l_13 C dX4_settleApart_37 hE (fun v2 hE => ?_)
    refine j_icmp_ne (tgt := 55) C dX4_settleApart_38 rfl hE (fun hE => ?_) (fun hE => ?_)
    · exact p_X4_settleApart_r22_55 C Q hg hk61 x2 x3 S hE
    · refine j_aload_n C dX4_settleApart_41 0 rfl ?_
      refine g_X4_18_12 C dX4_settleApart_42 ?_
      refine j_iload_n C dX4_settleApart_45 1 rfl ?_
      refine j_dup2 C dX4_settleApart_46 rfl rfl ?_
      refine l_15 C dX4_settleApart_47 hE (fun v3 hE => ?_)
      refine j_iconst (v := 1) C dX4_settleApart_48 jc_ic_1 ?_
      refine j_iload_n C dX4_settleApart_49 2 rfl ?_
      refine j_ishl C dX4_settleApart_50 ?_
      refine j_iconst (v := (-1)) C dX4_settleApart_51 jc_ic_m1 ?_
      refine j_ixor C dX4_settleApart_52 ?_
      refine j_iand C dX4_settleApart_53 ?_
      refine s_15 C dX4_settleApart_54 hE (fun S4 hE => ?_)
      exact p_X4_settleApart_r22_55 C Q hg hk61 x2 x3 S4 hE
theorem q_X4_settleApart_r22_18 {X : jX} {D : va_G} {ad : Nat → Nat} {cy : Nat → ClassId} (C : jC X (jMain D ad cy) RX4 cX4_settleApart (none) 4 6 137) {z : jS} (Q : jRet X (jMain D ad cy) (none, z)) {k61 : Int32 → jS → Option (jS)} (hk61 : ∀ (x2 : Int32) (S : jS), k61 x2 S = some z → jJ X (jMain D ad cy) 61 [(0, .ref (ad 12)), (2, .int x2)] [] S) (x2 : Int32) (x3 : Int32) (S : jS) (hE : lp_X4_settleApart_r22_18 k61 x2 x3 S = some z) : jJ X (jMain D ad cy) 18 [(0, .ref (ad 12)), (2, .int x2), (3, .int x3)] [] S :=
  jloop_P (α := Int32 × Int32 × jS) (B := (fun g q => f_X4_settleApart_r22_18 (fun x2 x3 S => g (x2, x3, S)) k61 q.1 q.2.1 q.2.2)) (P := fun q => jJ X (jMain D ad cy) 18 [(0, .ref (ad 12)), (2, .int q.1), (3, .int q.2.1)] [] q.2.2) (fun g q hg h => p_X4_settleApart_r22_18 C Q (g := fun x2 x3 S => g (x2, x3, S)) (fun x2 x3 S h => hg (x2, x3, S) h) hk61 q.1 q.2.1 q.2.2 h) jN (x2, x3, S) hE
set_option maxRecDepth 100000 in
theorem p_X4_settleApart_r22_61 {X : jX} {D : va_G} {ad : Nat → Nat} {cy : Nat → ClassId} (C : jC X (jMain D ad cy) RX4 cX4_settleApart (none) 4 6 137) {z : jS} (Q : jRet X (jMain D ad cy) (none, z)) {g : Int32 → jS → Option (jS)} (hg : ∀ (x2 : Int32) (S : jS), g x2 S = some z → jJ X (jMain D ad cy) 8 [(0, .ref (ad 12)), (2, .int x2)] [] S) {k67 : jS → Option (jS)} (hk67 : ∀  (S : jS), k67  S = some z → jJ X (jMain D ad cy) 67 [] [] S) (x2 : Int32) (S : jS) (hE : f_X4_settleApart_r22_61 g k67 x2 S = some z) : jJ X (jMain D ad cy) 61 [(0, .ref (ad 12)), (2, .int x2)] [] S := by
  unfold f_X4_settleApart_r22_61 at hE
  refine j_iinc (v := (x2 + 1)) (lv' := [(2, .int (x2 + 1)), (0, .ref (ad 12))]) C dX4_settleApart_61 1 rfl (congrArg (fun w => x2 + w) jc_ic_1) (by decide) rfl ?_
  refine j_goto (tgt := 8) C dX4_settleApart_64 rfl ?_
  refine j_sub [1, 0] rfl ?_
  exact hg (x2 + 1) S hE
set_option maxRecDepth 100000 in
theorem p_X4_settleApart_r22_8 {X : jX} {D : va_G} {ad : Nat → Nat} {cy : Nat → ClassId} (C : jC X (jMain D ad cy) RX4 cX4_settleApart (none) 4 6 137) {z : jS} (Q : jRet X (jMain D ad cy) (none, z)) {g : Int32 → jS → Option (jS)} (hg : ∀ (x2 : Int32) (S : jS), g x2 S = some z → jJ X (jMain D ad cy) 8 [(0, .ref (ad 12)), (2, .int x2)] [] S) {k67 : jS → Option (jS)} (hk67 : ∀  (S : jS), k67  S = some z → jJ X (jMain D ad cy) 67 [] [] S) (x2 : Int32) (S : jS) (hE : f_X4_settleApart_r22_8 g k67 x2 S = some z) : jJ X (jMain D ad cy) 8 [(0, .ref (ad 12)), (2, .int x2)] [] S := by
  unfold f_X4_settleApart_r22_8 at hE
  refine j_iload_n C dX4_settleApart_8 1 rfl ?_
  refine j_aload_n C dX4_settleApart_9 0 rfl ?_
  refine g_X4_41_12 C dX4_settleApart_10 ?_
  refine j_icmp_ge (tgt := 67) C dX4_settleApart_13 rfl hE (fun hE => ?_) (fun hE => ?_)
  · refine j_sub [] rfl ?_
    exact hk67  S hE
  · refine j_iconst (v := 0) C dX4_settleApart_16 jc_ic_0 ?_
    refine j_istore_n (i := 3) (lv' := [(3, .int 0), (0, .ref (ad 12)), (2, .int x2)]) C dX4_settleApart_17 rfl (by decide) rfl ?_
    refine j_sub [1, 2, 0] rfl ?_
    exact q_X4_settleApart_r22_18 C Q (p_X4_settleApart_r22_61 C Q hg hk67) x2 0 S hE
theorem q_X4_settleApart_r22_8 {X : jX} {D : va_G} {ad : Nat → Nat} {cy : Nat → ClassId} (C : jC X (jMain D ad cy) RX4 cX4_settleApart (none) 4 6 137) {z : jS} (Q : jRet X (jMain D ad cy) (none, z)) {k67 : jS → Option (jS)} (hk67 : ∀  (S : jS), k67  S = some z → jJ X (jMain D ad cy) 67 [] [] S) (x2 : Int32) (S : jS) (hE : lp_X4_settleApart_r22_8 k67 x2 S = some z) : jJ X (jMain D ad cy) 8 [(0, .ref (ad 12)), (2, .int x2)] [] S :=
  jloop_P (α := Int32 × jS) (B := (fun g q => f_X4_settleApart_r22_8 (fun x2 S => g (x2, S)) k67 q.1 q.2)) (P := fun q => jJ X (jMain D ad cy) 8 [(0, .ref (ad 12)), (2, .int q.1)] [] q.2) (fun g q hg h => p_X4_settleApart_r22_8 C Q (g := fun x2 S => g (x2, S)) (fun x2 S h => hg (x2, S) h) hk67 q.1 q.2 h) jN (x2, S) hE
set_option maxRecDepth 100000 in
theorem p_X4_settleApart_r22_67 {X : jX} {D : va_G} {ad : Nat → Nat} {cy : Nat → ClassId} (C : jC X (jMain D ad cy) RX4 cX4_settleApart (none) 4 6 137) {z : jS} (Q : jRet X (jMain D ad cy) (none, z))   (S : jS) (hE : f_X4_settleApart_r22_67   S = some z) : jJ X (jMain D ad cy) 67 [] [] S := by
  unfold f_X4_settleApart_r22_67 at hE
  exact j_vret C Q dX4_settleApart_67 hE
set_option maxRecDepth 100000 in
theorem p_X4_settleApart_r22_e {X : jX} {D : va_G} {ad : Nat → Nat} {cy : Nat → ClassId} (C : jC X (jMain D ad cy) RX4 cX4_settleApart (none) 4 6 137) {z : jS} (Q : jRet X (jMain D ad cy) (none, z))   (S : jS) (hE : f_X4_settleApart_r22_e   S = some z) : jJ X (jMain D ad cy) 0 [(0, .ref (ad 12)), (1, .ref (ad 22))] [] S := by
  unfold f_X4_settleApart_r22_e at hE
  refine j_aload_n C dX4_settleApart_0 0 rfl ?_
  refine j_iconst (v := 0) C dX4_settleApart_1 jc_ic_0 ?_
  refine j_aload_n C dX4_settleApart_2 1 rfl ?_
  refine k_X4_69_X4_settle_r22 C dX4_settleApart_3 hE (Nat.le_of_ble_eq_true rfl) (Nat.le_of_ble_eq_true rfl) (Nat.le_of_ble_eq_true rfl) (fun S1 hE => ?_)
  refine j_iconst (v := 0) C dX4_settleApart_6 jc_ic_0 ?_
  refine j_istore_n (i := 2) (lv' := [(2, .int 0), (0, .ref (ad 12)), (1, .ref (ad 22))]) C dX4_settleApart_7 rfl (by decide) rfl ?_
  refine j_sub [1, 0] rfl ?_
  exact q_X4_settleApart_r22_8 C Q (p_X4_settleApart_r22_67 C Q ) 0 S1 hE
theorem c_X4_settleApart_r22 {l : Launch} {D : va_G} {ad : Nat → Nat} {cy : Nat → ClassId} (hO : jOk (jMain D ad cy))  (S : jS) {z : jS} (hz : f_X4_settleApart_r22  S = some z) : Met l yX4_settleApart (.code yX4_settleApart cX4_settleApart 4 (none) :: jT) { frames := 6, cells := 0, slots := 0, locals := 137 } (va_Pc [.ref (ad 12), .ref (ad 22)] (jInv (jMain D ad cy) S)) (jQ (jMain D ad cy) (none, z)) 0 0 (yA (jMain D ad cy)) :=
  jMet hO (by decide +kernel) rfl (Nat.le_of_ble_eq_true rfl) (fun X _ C Q => p_X4_settleApart_r22_e C Q  S hz)
theorem k_X4_73_X4_settleApart_r22 {X : jX} {D : va_G} {ad : Nat → Nat} {cy : Nat → ClassId} {cc : ByteArray} {ret : Option FieldType} {nL fr lo pc : Nat} {lv : List (Nat × Value)} {st : List Value} {S : jS} {β : Type} {z : β} (C : jC X (jMain D ad cy) RX4 cc ret nL fr lo)  {E : jS → Option β} (d : decode cc pc = .ok (.invokevirtual 73, 3)) (hE : jcv (f_X4_settleApart_r22  S) E = some z) (hfr : 7 ≤ fr) (hlo : 160 ≤ lo) (hst : (st.map fun v => v.category).sum ≤ 8) (K : ∀ S1, E S1 = some z → jJ X (jMain D ad cy) (pc + 3) lv st S1) : jJ X (jMain D ad cy) pc lv (.ref (ad 22) :: .ref (ad 12) :: st) S := by
  obtain ⟨v, h1, h2⟩ := jcv_some hE
  exact j_callV (k := 12) (ci := 4) (T := TX4) (N := 7) (n := 1) (As := [.ref (ad 22)]) C (c_X4_settleApart_r22 C.2.2.2.2.2.2.1  S h1) tw_676 tw_678 tw_19 tw_79 tw_679 (by decide +kernel) rfl (by decide : 12 < 56) rfl rfl hfr hlo hst rfl d (K _ h2)
set_option maxRecDepth 100000 in
theorem p_X4_endsOf_67 {X : jX} {D : va_G} {ad : Nat → Nat} {cy : Nat → ClassId} (C : jC X (jMain D ad cy) RX4 cX4_endsOf (some .int) 6 0 0) {z : Int32 × jS} (Q : jRet X (jMain D ad cy) (some (.int z.1), z.2)) {g : Int32 → Int32 → Int32 → jS → Option (Int32 × jS)} (hg : ∀ (x1 : Int32) (x2 : Int32) (x3 : Int32) (S : jS), g x1 x2 x3 S = some z → jJ X (jMain D ad cy) 4 [(0, .ref (ad 12)), (1, .int x1), (2, .int x2), (3, .int x3)] [] S) {k73 : Int32 → jS → Option (Int32 × jS)} (hk73 : ∀ (x2 : Int32) (S : jS), k73 x2 S = some z → jJ X (jMain D ad cy) 73 [(2, .int x2)] [] S) (x1 : Int32) (x2 : Int32) (x3 : Int32) (S : jS) (hE : f_X4_endsOf_67 g k73 x1 x2 x3 S = some z) : jJ X (jMain D ad cy) 67 [(0, .ref (ad 12)), (1, .int x1), (2, .int x2), (3, .int x3)] [] S := by
  unfold f_X4_endsOf_67 at hE
  refine j_iinc (v := (x3 + 1)) (lv' := [(3, .int (x3 + 1)), (0, .ref (ad 12)), (1, .int x1), (2, .int x2)]) C dX4_endsOf_67 3 rfl (congrArg (fun w => x3 + w) jc_ic_1) (by decide) rfl ?_
  refine j_goto (tgt := 4) C dX4_endsOf_70 rfl ?_
  refine j_sub [1, 2, 3, 0] rfl ?_
  exact hg x1 x2 (x3 + 1) S hE
set_option maxRecDepth 100000 in
theorem p_X4_endsOf_61 {X : jX} {D : va_G} {ad : Nat → Nat} {cy : Nat → ClassId} (C : jC X (jMain D ad cy) RX4 cX4_endsOf (some .int) 6 0 0) {z : Int32 × jS} (Q : jRet X (jMain D ad cy) (some (.int z.1), z.2)) {g : Int32 → Int32 → Int32 → jS → Option (Int32 × jS)} (hg : ∀ (x1 : Int32) (x2 : Int32) (x3 : Int32) (S : jS), g x1 x2 x3 S = some z → jJ X (jMain D ad cy) 4 [(0, .ref (ad 12)), (1, .int x1), (2, .int x2), (3, .int x3)] [] S) {k73 : Int32 → jS → Option (Int32 × jS)} (hk73 : ∀ (x2 : Int32) (S : jS), k73 x2 S = some z → jJ X (jMain D ad cy) 73 [(2, .int x2)] [] S) (x1 : Int32) (x2 : Int32) (x3 : Int32) (S : jS) (hE : f_X4_endsOf_61 g k73 x1 x2 x3 S = some z) : jJ X (jMain D ad cy) 61 [(0, .ref (ad 12)), (1, .int x1), (2, .int x2), (3, .int x3)] [] S := by
  unfold f_X4_endsOf_61 at hE
  refine j_iload_n C dX4_endsOf_61 2 rfl ?_
  refine j_iconst (v := 1) C dX4_endsOf_62 jc_ic_1 ?_
  refine j_iload_n C dX4_endsOf_63 3 rfl ?_
  refine j_ishl C dX4_endsOf_64 ?_
  refine j_ior C dX4_endsOf_65 ?_
  refine j_istore_n (i := 2) (lv' := [(2, .int (x2 ||| (1 <<< (x3 &&& 31)))), (0, .ref (ad 12)), (1, .int x1), (3, .int x3)]) C dX4_endsOf_66 rfl (by decide) rfl ?_
  refine j_sub [1, 2, 0, 3] rfl ?_
  exact p_X4_endsOf_67 C Q hg hk73 x1 (x2 ||| (1 <<< (x3 &&& 31))) x3 S hE
set_option maxRecDepth 100000 in
theorem p_X4_endsOf_32 {X : jX} {D : va_G} {ad : Nat → Nat} {cy : Nat → ClassId} (C : jC X (jMain D ad cy) RX4 cX4_endsOf (some .int) 6 0 0) {z : Int32 × jS} (Q : jRet X (jMain D ad cy) (some (.int z.1), z.2)) {g : Int32 → Int32 → Int32 → jS → Option (Int32 × jS)} (hg : ∀ (x1 : Int32) (x2 : Int32) (x3 : Int32) (S : jS), g x1 x2 x3 S = some z → jJ X (jMain D ad cy) 4 [(0, .ref (ad 12)), (1, .int x1), (2, .int x2), (3, .int x3)] [] S) {k73 : Int32 → jS → Option (Int32 × jS)} (hk73 : ∀ (x2 : Int32) (S : jS), k73 x2 S = some z → jJ X (jMain D ad cy) 73 [(2, .int x2)] [] S) (a0 : Int32) (x1 : Int32) (x2 : Int32) (x3 : Int32) (x4 : Int32) (S : jS) (hE : f_X4_endsOf_32 g k73 a0 x1 x2 x3 x4 S = some z) : jJ X (jMain D ad cy) 32 [(0, .ref (ad 12)), (1, .int x1), (2, .int x2), (3, .int x3), (4, .int x4)] [.int a0] S := by
  unfold f_X4_endsOf_32 at hE
  refine j_istore (lv' := [(5, .int a0), (0, .ref (ad 12)), (1, .int x1), (2, .int x2), (3, .int x3), (4, .int x4)]) C dX4_endsOf_32 (by decide) rfl ?_
  refine j_iload C dX4_endsOf_34 0 rfl ?_
  refine j_if_eq (tgt := 67) C dX4_endsOf_36 rfl hE (fun hE => ?_) (fun hE => ?_)
  · refine j_sub [1, 2, 3, 4] rfl ?_
    exact p_X4_endsOf_67 C Q hg hk73 x1 x2 x3 S hE
  · refine j_iload C dX4_endsOf_39 5 rfl ?_
    refine j_if_eq (tgt := 61) C dX4_endsOf_41 rfl hE (fun hE => ?_) (fun hE => ?_)
    · refine j_sub [1, 2, 3, 4] rfl ?_
      exact p_X4_endsOf_61 C Q hg hk73 x1 x2 x3 S hE
    · refine j_aload_n C dX4_endsOf_44 1 rfl ?_
      refine g_X4_24_12 C dX4_endsOf_45 ?_
      refine j_iload C dX4_endsOf_48 5 rfl ?_
      refine l_17 C dX4_endsOf_50 hE (fun v1 hE => ?_)
      refine j_aload_n C dX4_endsOf_51 1 rfl ?_
      refine g_X4_18_12 C dX4_endsOf_52 ?_
      refine j_iload_n C dX4_endsOf_55 4 rfl ?_
      refine l_15 C dX4_endsOf_56 hE (fun v2 hE => ?_)
      refine j_iand C dX4_endsOf_57 ?_
      refine j_if_eq (tgt := 67) C dX4_endsOf_58 rfl hE (fun hE => ?_) (fun hE => ?_)
      · refine j_sub [1, 2, 3, 4] rfl ?_
        exact p_X4_endsOf_67 C Q hg hk73 x1 x2 x3 S hE
      · refine j_sub [1, 2, 3, 4] rfl ?_
        exact p_X4_endsOf_61 C Q hg hk73 x1 x2 x3 S hE
set_option maxRecDepth 100000 in
theorem p_X4_endsOf_4 {X : jX} {D : va_G} {ad : Nat → Nat} {cy : Nat → ClassId} (C : jC X (jMain D ad cy) RX4 cX4_endsOf (some .int) 6 0 0) {z : Int32 × jS} (Q : jRet X (jMain D ad cy) (some (.int z.1), z.2)) {g : Int32 → Int32 → Int32 → jS → Option (Int32 × jS)} (hg : ∀ (x1 : Int32) (x2 : Int32) (x3 : Int32) (S : jS), g x1 x2 x3 S = some z → jJ X (jMain D ad cy) 4 [(0, .ref (ad 12)), (1, .int x1), (2, .int x2), (3, .int x3)] [] S) {k73 : Int32 → jS → Option (Int32 × jS)} (hk73 : ∀ (x2 : Int32) (S : jS), k73 x2 S = some z → jJ X (jMain D ad cy) 73 [(2, .int x2)] [] S) (x1 : Int32) (x2 : Int32) (x3 : Int32) (S : jS) (hE : f_X4_endsOf_4 g k73 x1 x2 x3 S = some z) : jJ X (jMain D ad cy) 4 [(0, .ref (ad 12)), (1, .int x1), (2, .int x2), (3, .int x3)] [] S := by
  unfold f_X4_endsOf_4 at hE
  refine j_iload_n C dX4_endsOf_4 3 rfl ?_
  refine j_aload_n C dX4_endsOf_5 0 rfl ?_
  refine g_X4_41_12 C dX4_endsOf_6 ?_
  refine j_icmp_ge (tgt := 73) C dX4_endsOf_9 rfl hE (fun hE => ?_) (fun hE => ?_)
  · refine j_sub [2] rfl ?_
    exact hk73 x2 S hE
  · refine j_iload_n C dX4_endsOf_12 1 rfl ?_
    refine j_iconst (v := 1) C dX4_endsOf_13 jc_ic_1 ?_
    refine j_iload_n C dX4_endsOf_14 3 rfl ?_
    refine j_ishl C dX4_endsOf_15 ?_
    refine j_iconst (v := (-1)) C dX4_endsOf_16 jc_ic_m1 ?_
    refine j_ixor C dX4_endsOf_17 ?_
    refine j_iand C dX4_endsOf_18 ?_
    refine j_istore (lv' := [(4, .int (x1 &&& ((1 <<< (x3 &&& 31)) ^^^ (-1)))), (0, .ref (ad 12)), (1, .int x1), (2, .int x2), (3, .int x3)]) C dX4_endsOf_19 (by decide) rfl ?_
    refine j_iload C dX4_endsOf_21 0 rfl ?_
    refine j_iload_n C dX4_endsOf_23 2 rfl ?_
    refine j_icmp_eq (tgt := 31) C dX4_endsOf_24 rfl hE (fun hE => ?_) (fun hE => ?_)
    · refine j_iconst (v := 0) C dX4_endsOf_31 jc_ic_0 ?_
      refine j_sub [1, 2, 3, 4, 0] rfl ?_
      exact p_X4_endsOf_32 C Q hg hk73 0 x1 x2 x3 (x1 &&& ((1 <<< (x3 &&& 31)) ^^^ (-1))) S hE
    · refine j_iconst (v := 1) C dX4_endsOf_27 jc_ic_1 ?_
      refine j_goto (tgt := 32) C dX4_endsOf_28 rfl ?_
      refine j_sub [1, 2, 3, 4, 0] rfl ?_
      exact p_X4_endsOf_32 C Q hg hk73 1 x1 x2 x3 (x1 &&& ((1 <<< (x3 &&& 31)) ^^^ (-1))) S hE
theorem q_X4_endsOf_4 {X : jX} {D : va_G} {ad : Nat → Nat} {cy : Nat → ClassId} (C : jC X (jMain D ad cy) RX4 cX4_endsOf (some .int) 6 0 0) {z : Int32 × jS} (Q : jRet X (jMain D ad cy) (some (.int z.1), z.2)) {k73 : Int32 → jS → Option (Int32 × jS)} (hk73 : ∀ (x2 : Int32) (S : jS), k73 x2 S = some z → jJ X (jMain D ad cy) 73 [(2, .int x2)] [] S) (x1 : Int32) (x2 : Int32) (x3 : Int32) (S : jS) (hE : lp_X4_endsOf_4 k73 x1 x2 x3 S = some z) : jJ X (jMain D ad cy) 4 [(0, .ref (ad 12)), (1, .int x1), (2, .int x2), (3, .int x3)] [] S :=
  jloop_P (α := Int32 × Int32 × Int32 × jS) (B := (fun g q => f_X4_endsOf_4 (fun x1 x2 x3 S => g (x1, x2, x3, S)) k73 q.1 q.2.1 q.2.2.1 q.2.2.2)) (P := fun q => jJ X (jMain D ad cy) 4 [(0, .ref (ad 12)), (1, .int q.1), (2, .int q.2.1), (3, .int q.2.2.1)] [] q.2.2.2) (fun g q hg h => p_X4_endsOf_4 C Q (g := fun x1 x2 x3 S => g (x1, x2, x3, S)) (fun x1 x2 x3 S h => hg (x1, x2, x3, S) h) hk73 q.1 q.2.1 q.2.2.1 q.2.2.2 h) jN (x1, x2, x3, S) hE
set_option maxRecDepth 100000 in
theorem p_X4_endsOf_73 {X : jX} {D : va_G} {ad : Nat → Nat} {cy : Nat → ClassId} (C : jC X (jMain D ad cy) RX4 cX4_endsOf (some .int) 6 0 0) {z : Int32 × jS} (Q : jRet X (jMain D ad cy) (some (.int z.1), z.2))  (x2 : Int32) (S : jS) (hE : f_X4_endsOf_73  x2 S = some z) : jJ X (jMain D ad cy) 73 [(2, .int x2)] [] S := by
  unfold f_X4_endsOf_73 at hE
  refine j_iload_n C dX4_endsOf_73 0 rfl ?_
  exact j_iret C Q dX4_endsOf_74 hE
set_option maxRecDepth 100000 in
theorem p_X4_endsOf_e {X : jX} {D : va_G} {ad : Nat → Nat} {cy : Nat → ClassId} (C : jC X (jMain D ad cy) RX4 cX4_endsOf (some .int) 6 0 0) {z : Int32 × jS} (Q : jRet X (jMain D ad cy) (some (.int z.1), z.2))  (x1 : Int32) (S : jS) (hE : f_X4_endsOf_e  x1 S = some z) : jJ X (jMain D ad cy) 0 [(0, .ref (ad 12)), (1, .int x1)] [] S := by
  unfold f_X4_endsOf_e at hE
  refine j_iconst (v := 0) C dX4_endsOf_0 jc_ic_0 ?_
  refine j_istore_n (i := 2) (lv' := [(2, .int 0), (0, .ref (ad 12)), (1, .int x1)]) C dX4_endsOf_1 rfl (by decide) rfl ?_
  refine j_iconst (v := 0) C dX4_endsOf_2 jc_ic_0 ?_
  refine j_istore_n (i := 3) (lv' := [(3, .int 0), (2, .int 0), (0, .ref (ad 12)), (1, .int x1)]) C dX4_endsOf_3 rfl (by decide) rfl ?_
  refine j_sub [2, 3, 1, 0] rfl ?_
  exact q_X4_endsOf_4 C Q (p_X4_endsOf_73 C Q ) x1 0 0 S hE
theorem c_X4_endsOf {l : Launch} {D : va_G} {ad : Nat → Nat} {cy : Nat → ClassId} (hO : jOk (jMain D ad cy)) (x1 : Int32) (S : jS) {z : Int32 × jS} (hz : f_X4_endsOf x1 S = some z) : Met l yX4_endsOf (.code yX4_endsOf cX4_endsOf 6 (some .int) :: jT) { frames := 0, cells := 0, slots := 0, locals := 0 } (va_Pc [.ref (ad 12), .int x1] (jInv (jMain D ad cy) S)) (jQ (jMain D ad cy) (some (.int z.1), z.2)) 0 0 (yA (jMain D ad cy)) :=
  jMet hO (by decide +kernel) rfl (Nat.le_of_ble_eq_true rfl) (fun X _ C Q => p_X4_endsOf_e C Q x1 S hz)
theorem k_X4_76_X4_endsOf {X : jX} {D : va_G} {ad : Nat → Nat} {cy : Nat → ClassId} {cc : ByteArray} {ret : Option FieldType} {nL fr lo pc : Nat} {lv : List (Nat × Value)} {st : List Value} {S : jS} {β : Type} {z : β} (C : jC X (jMain D ad cy) RX4 cc ret nL fr lo) {a0 : Int32} {E : Int32 → jS → Option β} (d : decode cc pc = .ok (.invokevirtual 76, 3)) (hE : jcl (f_X4_endsOf a0 S) E = some z) (hfr : 1 ≤ fr) (hlo : 25 ≤ lo) (hst : (st.map fun v => v.category).sum ≤ 8) (K : ∀ (v : Int32) (S1 : jS), E v S1 = some z → jJ X (jMain D ad cy) (pc + 3) lv (.int v :: st) S1) : jJ X (jMain D ad cy) pc lv (.int a0 :: .ref (ad 12) :: st) S := by
  obtain ⟨v, h1, h2⟩ := jcl_some hE
  exact j_callV (k := 12) (ci := 4) (T := TX4) (N := 7) (n := 1) (As := [.int a0]) C (c_X4_endsOf C.2.2.2.2.2.2.1 a0 S h1) tw_681 tw_683 tw_20 tw_79 tw_684 (by decide +kernel) rfl (by decide : 12 < 56) rfl rfl hfr hlo hst rfl d (K _ _ h2)
set_option maxRecDepth 100000 in
theorem p_X4_longestRow_r22_48 {X : jX} {D : va_G} {ad : Nat → Nat} {cy : Nat → ClassId} (C : jC X (jMain D ad cy) RX4 cX4_longestRow (some .int) 4 7 160) {z : Int32 × jS} (Q : jRet X (jMain D ad cy) (some (.int z.1), z.2)) {g : Int32 → Int32 → jS → Option (Int32 × jS)} (hg : ∀ (x2 : Int32) (x3 : Int32) (S : jS), g x2 x3 S = some z → jJ X (jMain D ad cy) 9 [(0, .ref (ad 12)), (2, .int x2), (3, .int x3)] [] S) {k54 : Int32 → jS → Option (Int32 × jS)} (hk54 : ∀ (x2 : Int32) (S : jS), k54 x2 S = some z → jJ X (jMain D ad cy) 54 [(2, .int x2)] [] S) (x2 : Int32) (x3 : Int32) (S : jS) (hE : f_X4_longestRow_r22_48 g k54 x2 x3 S = some z) : jJ X (jMain D ad cy) 48 [(0, .ref (ad 12)), (2, .int x2), (3, .int x3)] [] S := by
  unfold f_X4_longestRow_r22_48 at hE
  refine j_iinc (v := (x3 + 1)) (lv' := [(3, .int (x3 + 1)), (0, .ref (ad 12)), (2, .int x2)]) C dX4_longestRow_48 2 rfl (congrArg (fun w => x3 + w) jc_ic_1) (by decide) rfl ?_
  refine j_goto (tgt := 9) C dX4_longestRow_51 rfl ?_
  refine j_sub [1, 2, 0] rfl ?_
  exact hg x2 (x3 + 1) S hE
set_option maxRecDepth 100000 in
theorem p_X4_longestRow_r22_9 {X : jX} {D : va_G} {ad : Nat → Nat} {cy : Nat → ClassId} (C : jC X (jMain D ad cy) RX4 cX4_longestRow (some .int) 4 7 160) {z : Int32 × jS} (Q : jRet X (jMain D ad cy) (some (.int z.1), z.2)) {g : Int32 → Int32 → jS → Option (Int32 × jS)} (hg : ∀ (x2 : Int32) (x3 : Int32) (S : jS), g x2 x3 S = some z → jJ X (jMain D ad cy) 9 [(0, .ref (ad 12)), (2, .int x2), (3, .int x3)] [] S) {k54 : Int32 → jS → Option (Int32 × jS)} (hk54 : ∀ (x2 : Int32) (S : jS), k54 x2 S = some z → jJ X (jMain D ad cy) 54 [(2, .int x2)] [] S) (x2 : Int32) (x3 : Int32) (S : jS) (hE : f_X4_longestRow_r22_9 g k54 x2 x3 S = some z) : jJ X (jMain D ad cy) 9 [(0, .ref (ad 12)), (2, .int x2), (3, .int x3)] [] S := by
  unfold f_X4_longestRow_r22_9 at hE
  refine j_iload_n C dX4_longestRow_9 2 rfl ?_
  refine j_iconst (v := 1) C dX4_longestRow_10 jc_ic_1 ?_
  refine j_aload_n C dX4_longestRow_11 0 rfl ?_
  refine g_X4_41_12 C dX4_longestRow_12 ?_
  refine j_ishl C dX4_longestRow_15 ?_
  refine j_icmp_ge (tgt := 54) C dX4_longestRow_16 rfl hE (fun hE => ?_) (fun hE => ?_)
  · refine j_sub [1] rfl ?_
    exact hk54 x2 S hE
  · refine j_aload_n C dX4_longestRow_19 0 rfl ?_
    refine g_X4_24_12 C dX4_longestRow_20 ?_
    refine j_iload_n C dX4_longestRow_23 2 rfl ?_
    refine j_aload_n C dX4_longestRow_24 0 rfl ?_
    refine j_iload_n C dX4_longestRow_25 2 rfl ?_
    refine k_X4_76_X4_endsOf C dX4_longestRow_26 hE (Nat.le_of_ble_eq_true rfl) (Nat.le_of_ble_eq_true rfl) (Nat.le_of_ble_eq_true rfl) (fun v2 S1 hE => ?_)
    refine s_17 C dX4_longestRow_29 hE (fun S3 hE => ?_)
    refine j_aload_n C dX4_longestRow_30 0 rfl ?_
    refine g_X4_24_12 C dX4_longestRow_31 ?_
    refine j_iload_n C dX4_longestRow_34 2 rfl ?_
    refine l_17 C dX4_longestRow_35 hE (fun v4 hE => ?_)
    refine j_if_eq (tgt := 48) C dX4_longestRow_36 rfl hE (fun hE => ?_) (fun hE => ?_)
    · exact p_X4_longestRow_r22_48 C Q hg hk54 x2 x3 S3 hE
    · refine j_iload_n C dX4_longestRow_39 1 rfl ?_
      refine j_iload_n C dX4_longestRow_40 2 rfl ?_
      refine k_X4_31_J6_bitCount_0f7a4 C dX4_longestRow_41 hE (Nat.le_of_ble_eq_true rfl) (Nat.le_of_ble_eq_true rfl) (Nat.le_of_ble_eq_true rfl) (fun v6 S5 hE => ?_)
      refine j_mmax C tm_685 tm_686 tm_88 tm_687 dX4_longestRow_44 (Nat.le_of_ble_eq_true rfl) (Nat.le_of_ble_eq_true rfl) ?_
      refine j_istore_n (i := 2) (lv' := [(2, .int (if x2 < v6 then v6 else x2)), (0, .ref (ad 12)), (3, .int x3)]) C dX4_longestRow_47 rfl (by decide) rfl ?_
      refine j_sub [1, 0, 2] rfl ?_
      exact p_X4_longestRow_r22_48 C Q hg hk54 (if x2 < v6 then v6 else x2) x3 S5 hE
theorem q_X4_longestRow_r22_9 {X : jX} {D : va_G} {ad : Nat → Nat} {cy : Nat → ClassId} (C : jC X (jMain D ad cy) RX4 cX4_longestRow (some .int) 4 7 160) {z : Int32 × jS} (Q : jRet X (jMain D ad cy) (some (.int z.1), z.2)) {k54 : Int32 → jS → Option (Int32 × jS)} (hk54 : ∀ (x2 : Int32) (S : jS), k54 x2 S = some z → jJ X (jMain D ad cy) 54 [(2, .int x2)] [] S) (x2 : Int32) (x3 : Int32) (S : jS) (hE : lp_X4_longestRow_r22_9 k54 x2 x3 S = some z) : jJ X (jMain D ad cy) 9 [(0, .ref (ad 12)), (2, .int x2), (3, .int x3)] [] S :=
  jloop_P (α := Int32 × Int32 × jS) (B := (fun g q => f_X4_longestRow_r22_9 (fun x2 x3 S => g (x2, x3, S)) k54 q.1 q.2.1 q.2.2)) (P := fun q => jJ X (jMain D ad cy) 9 [(0, .ref (ad 12)), (2, .int q.1), (3, .int q.2.1)] [] q.2.2) (fun g q hg h => p_X4_longestRow_r22_9 C Q (g := fun x2 x3 S => g (x2, x3, S)) (fun x2 x3 S h => hg (x2, x3, S) h) hk54 q.1 q.2.1 q.2.2 h) jN (x2, x3, S) hE
set_option maxRecDepth 100000 in
theorem p_X4_longestRow_r22_54 {X : jX} {D : va_G} {ad : Nat → Nat} {cy : Nat → ClassId} (C : jC X (jMain D ad cy) RX4 cX4_longestRow (some .int) 4 7 160) {z : Int32 × jS} (Q : jRet X (jMain D ad cy) (some (.int z.1), z.2))  (x2 : Int32) (S : jS) (hE : f_X4_longestRow_r22_54  x2 S = some z) : jJ X (jMain D ad cy) 54 [(2, .int x2)] [] S := by
  unfold f_X4_longestRow_r22_54 at hE
  refine j_iload_n C dX4_longestRow_54 0 rfl ?_
  exact j_iret C Q dX4_longestRow_55 hE
set_option maxRecDepth 100000 in
theorem p_X4_longestRow_r22_e {X : jX} {D : va_G} {ad : Nat → Nat} {cy : Nat → ClassId} (C : jC X (jMain D ad cy) RX4 cX4_longestRow (some .int) 4 7 160) {z : Int32 × jS} (Q : jRet X (jMain D ad cy) (some (.int z.1), z.2))   (S : jS) (hE : f_X4_longestRow_r22_e   S = some z) : jJ X (jMain D ad cy) 0 [(0, .ref (ad 12)), (1, .ref (ad 22))] [] S := by
  unfold f_X4_longestRow_r22_e at hE
  refine j_aload_n C dX4_longestRow_0 0 rfl ?_
  refine j_aload_n C dX4_longestRow_1 1 rfl ?_
  refine k_X4_73_X4_settleApart_r22 C dX4_longestRow_2 hE (Nat.le_of_ble_eq_true rfl) (Nat.le_of_ble_eq_true rfl) (Nat.le_of_ble_eq_true rfl) (fun S1 hE => ?_)
  refine j_iconst (v := 0) C dX4_longestRow_5 jc_ic_0 ?_
  refine j_istore_n (i := 2) (lv' := [(2, .int 0), (0, .ref (ad 12)), (1, .ref (ad 22))]) C dX4_longestRow_6 rfl (by decide) rfl ?_
  refine j_iconst (v := 1) C dX4_longestRow_7 jc_ic_1 ?_
  refine j_istore_n (i := 3) (lv' := [(3, .int 1), (2, .int 0), (0, .ref (ad 12)), (1, .ref (ad 22))]) C dX4_longestRow_8 rfl (by decide) rfl ?_
  refine j_sub [2, 1, 0] rfl ?_
  exact q_X4_longestRow_r22_9 C Q (p_X4_longestRow_r22_54 C Q ) 0 1 S1 hE
theorem c_X4_longestRow_r22 {l : Launch} {D : va_G} {ad : Nat → Nat} {cy : Nat → ClassId} (hO : jOk (jMain D ad cy))  (S : jS) {z : Int32 × jS} (hz : f_X4_longestRow_r22  S = some z) : Met l yX4_longestRow (.code yX4_longestRow cX4_longestRow 4 (some .int) :: jT) { frames := 7, cells := 0, slots := 0, locals := 160 } (va_Pc [.ref (ad 12), .ref (ad 22)] (jInv (jMain D ad cy) S)) (jQ (jMain D ad cy) (some (.int z.1), z.2)) 0 0 (yA (jMain D ad cy)) :=
  jMet hO (by decide +kernel) rfl (Nat.le_of_ble_eq_true rfl) (fun X _ C Q => p_X4_longestRow_r22_e C Q  S hz)
theorem k_X11_187_X4_longestRow_r22 {X : jX} {D : va_G} {ad : Nat → Nat} {cy : Nat → ClassId} {cc : ByteArray} {ret : Option FieldType} {nL fr lo pc : Nat} {lv : List (Nat × Value)} {st : List Value} {S : jS} {β : Type} {z : β} (C : jC X (jMain D ad cy) RX11 cc ret nL fr lo)  {E : Int32 → jS → Option β} (d : decode cc pc = .ok (.invokevirtual 187, 3)) (hE : jcl (f_X4_longestRow_r22  S) E = some z) (hfr : 8 ≤ fr) (hlo : 183 ≤ lo) (hst : (st.map fun v => v.category).sum ≤ 8) (K : ∀ (v : Int32) (S1 : jS), E v S1 = some z → jJ X (jMain D ad cy) (pc + 3) lv (.int v :: st) S1) : jJ X (jMain D ad cy) pc lv (.ref (ad 22) :: .ref (ad 12) :: st) S := by
  obtain ⟨v, h1, h2⟩ := jcl_some hE
  exact j_callV (k := 12) (ci := 4) (T := TX4) (N := 7) (n := 1) (As := [.ref (ad 22)]) C (c_X4_longestRow_r22 C.2.2.2.2.2.2.1  S h1) tw_672 tw_673 tw_674 tw_79 tw_675 (by decide +kernel) rfl (by decide : 12 < 56) rfl rfl hfr hlo hst rfl d (K _ _ h2)
set_option maxRecDepth 100000 in
theorem p_X11_longest_e {X : jX} {D : va_G} {ad : Nat → Nat} {cy : Nat → ClassId} (C : jC X (jMain D ad cy) RX11 cX11_longest (some .int) 1 8 183) {z : Int32 × jS} (Q : jRet X (jMain D ad cy) (some (.int z.1), z.2))   (S : jS) (hE : f_X11_longest_e   S = some z) : jJ X (jMain D ad cy) 0 [(0, .ref (ad 0))] [] S := by
  unfold f_X11_longest_e at hE
  refine j_aload_n C dX11_longest_0 0 rfl ?_
  refine g_X11_30_0 C dX11_longest_1 ?_
  refine j_aload_n C dX11_longest_4 0 rfl ?_
  refine g_X11_44_0 C dX11_longest_5 ?_
  refine g_X11_96_21 C dX11_longest_8 ?_
  refine k_X11_187_X4_longestRow_r22 C dX11_longest_11 hE (Nat.le_of_ble_eq_true rfl) (Nat.le_of_ble_eq_true rfl) (Nat.le_of_ble_eq_true rfl) (fun v2 S1 hE => ?_)
  exact j_iret C Q dX11_longest_14 hE
theorem c_X11_longest {l : Launch} {D : va_G} {ad : Nat → Nat} {cy : Nat → ClassId} (hO : jOk (jMain D ad cy))  (S : jS) {z : Int32 × jS} (hz : f_X11_longest  S = some z) : Met l yX11_longest (.code yX11_longest cX11_longest 1 (some .int) :: jT) { frames := 8, cells := 0, slots := 0, locals := 183 } (va_Pc [.ref (ad 0)] (jInv (jMain D ad cy) S)) (jQ (jMain D ad cy) (some (.int z.1), z.2)) 0 0 (yA (jMain D ad cy)) :=
  jMet hO (by decide +kernel) rfl (Nat.le_of_ble_eq_true rfl) (fun X _ C Q => p_X11_longest_e C Q  S hz)
set_option maxRecDepth 100000 in
theorem p_X12_areAllApart_69 {X : jX} {D : va_G} {ad : Nat → Nat} {cy : Nat → ClassId} (C : jC X (jMain D ad cy) RX12 cX12_areAllApart (some .boolean) 6 2 43) {z : Int32 × jS} (Q : jRet X (jMain D ad cy) (some (.int z.1), z.2)) {g : Int32 → Int32 → Int32 → Int32 → jS → Option (Int32 × jS)} (hg : ∀ (x1 : Int32) (x2 : Int32) (x3 : Int32) (x4 : Int32) (S : jS), g x1 x2 x3 x4 S = some z → jJ X (jMain D ad cy) 13 [(0, .ref (ad 41)), (1, .int x1), (2, .int x2), (3, .int x3), (4, .int x4)] [] S) {k76 : Int32 → Int32 → Int32 → jS → Option (Int32 × jS)} (hk76 : ∀ (x1 : Int32) (x2 : Int32) (x3 : Int32) (S : jS), k76 x1 x2 x3 S = some z → jJ X (jMain D ad cy) 76 [(0, .ref (ad 41)), (1, .int x1), (2, .int x2), (3, .int x3)] [] S) (a0 : Int32) (x1 : Int32) (x3 : Int32) (x4 : Int32) (S : jS) (hE : f_X12_areAllApart_69 g k76 a0 x1 x3 x4 S = some z) : jJ X (jMain D ad cy) 69 [(0, .ref (ad 41)), (1, .int x1), (3, .int x3), (4, .int x4)] [.int a0] S := by
  unfold f_X12_areAllApart_69 at hE
  refine j_istore_n (i := 2) (lv' := [(2, .int a0), (0, .ref (ad 41)), (1, .int x1), (3, .int x3), (4, .int x4)]) C dX12_areAllApart_69 rfl (by decide) rfl ?_
  refine j_iinc (v := (x4 + 1)) (lv' := [(4, .int (x4 + 1)), (2, .int a0), (0, .ref (ad 41)), (1, .int x1), (3, .int x3)]) C dX12_areAllApart_70 4 rfl (congrArg (fun w => x4 + w) jc_ic_1) (by decide) rfl ?_
  refine j_goto (tgt := 13) C dX12_areAllApart_73 rfl ?_
  refine j_sub [2, 3, 1, 4, 0] rfl ?_
  exact hg x1 a0 x3 (x4 + 1) S hE
set_option maxRecDepth 100000 in
theorem p_X12_areAllApart_68 {X : jX} {D : va_G} {ad : Nat → Nat} {cy : Nat → ClassId} (C : jC X (jMain D ad cy) RX12 cX12_areAllApart (some .boolean) 6 2 43) {z : Int32 × jS} (Q : jRet X (jMain D ad cy) (some (.int z.1), z.2)) {g : Int32 → Int32 → Int32 → Int32 → jS → Option (Int32 × jS)} (hg : ∀ (x1 : Int32) (x2 : Int32) (x3 : Int32) (x4 : Int32) (S : jS), g x1 x2 x3 x4 S = some z → jJ X (jMain D ad cy) 13 [(0, .ref (ad 41)), (1, .int x1), (2, .int x2), (3, .int x3), (4, .int x4)] [] S) {k76 : Int32 → Int32 → Int32 → jS → Option (Int32 × jS)} (hk76 : ∀ (x1 : Int32) (x2 : Int32) (x3 : Int32) (S : jS), k76 x1 x2 x3 S = some z → jJ X (jMain D ad cy) 76 [(0, .ref (ad 41)), (1, .int x1), (2, .int x2), (3, .int x3)] [] S) (x1 : Int32) (x3 : Int32) (x4 : Int32) (S : jS) (hE : f_X12_areAllApart_68 g k76 x1 x3 x4 S = some z) : jJ X (jMain D ad cy) 68 [(0, .ref (ad 41)), (1, .int x1), (3, .int x3), (4, .int x4)] [] S := by
  unfold f_X12_areAllApart_68 at hE
  refine j_iconst (v := 0) C dX12_areAllApart_68 jc_ic_0 ?_
  exact p_X12_areAllApart_69 C Q hg hk76 0 x1 x3 x4 S hE
set_option maxRecDepth 100000 in
theorem p_X12_areAllApart_64 {X : jX} {D : va_G} {ad : Nat → Nat} {cy : Nat → ClassId} (C : jC X (jMain D ad cy) RX12 cX12_areAllApart (some .boolean) 6 2 43) {z : Int32 × jS} (Q : jRet X (jMain D ad cy) (some (.int z.1), z.2)) {g : Int32 → Int32 → Int32 → Int32 → jS → Option (Int32 × jS)} (hg : ∀ (x1 : Int32) (x2 : Int32) (x3 : Int32) (x4 : Int32) (S : jS), g x1 x2 x3 x4 S = some z → jJ X (jMain D ad cy) 13 [(0, .ref (ad 41)), (1, .int x1), (2, .int x2), (3, .int x3), (4, .int x4)] [] S) {k76 : Int32 → Int32 → Int32 → jS → Option (Int32 × jS)} (hk76 : ∀ (x1 : Int32) (x2 : Int32) (x3 : Int32) (S : jS), k76 x1 x2 x3 S = some z → jJ X (jMain D ad cy) 76 [(0, .ref (ad 41)), (1, .int x1), (2, .int x2), (3, .int x3)] [] S) (x1 : Int32) (x3 : Int32) (x4 : Int32) (S : jS) (hE : f_X12_areAllApart_64 g k76 x1 x3 x4 S = some z) : jJ X (jMain D ad cy) 64 [(0, .ref (ad 41)), (1, .int x1), (3, .int x3), (4, .int x4)] [] S := by
  unfold f_X12_areAllApart_64 at hE
  refine j_iconst (v := 1) C dX12_areAllApart_64 jc_ic_1 ?_
  refine j_goto (tgt := 69) C dX12_areAllApart_65 rfl ?_
  exact p_X12_areAllApart_69 C Q hg hk76 1 x1 x3 x4 S hE
set_option maxRecDepth 100000 in
theorem p_X12_areAllApart_43 {X : jX} {D : va_G} {ad : Nat → Nat} {cy : Nat → ClassId} (C : jC X (jMain D ad cy) RX12 cX12_areAllApart (some .boolean) 6 2 43) {z : Int32 × jS} (Q : jRet X (jMain D ad cy) (some (.int z.1), z.2)) {g : Int32 → Int32 → Int32 → Int32 → jS → Option (Int32 × jS)} (hg : ∀ (x1 : Int32) (x2 : Int32) (x3 : Int32) (x4 : Int32) (S : jS), g x1 x2 x3 x4 S = some z → jJ X (jMain D ad cy) 13 [(0, .ref (ad 41)), (1, .int x1), (2, .int x2), (3, .int x3), (4, .int x4)] [] S) {k76 : Int32 → Int32 → Int32 → jS → Option (Int32 × jS)} (hk76 : ∀ (x1 : Int32) (x2 : Int32) (x3 : Int32) (S : jS), k76 x1 x2 x3 S = some z → jJ X (jMain D ad cy) 76 [(0, .ref (ad 41)), (1, .int x1), (2, .int x2), (3, .int x3)] [] S) (a0 : Int32) (x1 : Int32) (x2 : Int32) (x3 : Int32) (x4 : Int32) (S : jS) (hE : f_X12_areAllApart_43 g k76 a0 x1 x2 x3 x4 S = some z) : jJ X (jMain D ad cy) 43 [(0, .ref (ad 41)), (1, .int x1), (2, .int x2), (3, .int x3), (4, .int x4)] [.int a0] S := by
  unfold f_X12_areAllApart_43 at hE
  refine j_istore (lv' := [(5, .int a0), (0, .ref (ad 41)), (1, .int x1), (2, .int x2), (3, .int x3), (4, .int x4)]) C dX12_areAllApart_43 (by decide) rfl ?_
  refine j_iload_n C dX12_areAllApart_45 3 rfl ?_
  refine j_if_eq (tgt := 68) C dX12_areAllApart_46 rfl hE (fun hE => ?_) (fun hE => ?_)
  · refine j_sub [1, 2, 4, 5] rfl ?_
    exact p_X12_areAllApart_68 C Q hg hk76 x1 x3 x4 S hE
  · refine j_iload C dX12_areAllApart_49 0 rfl ?_
    refine j_if_eq (tgt := 64) C dX12_areAllApart_51 rfl hE (fun hE => ?_) (fun hE => ?_)
    · refine j_sub [1, 2, 4, 5] rfl ?_
      exact p_X12_areAllApart_64 C Q hg hk76 x1 x3 x4 S hE
    · refine j_aload_n C dX12_areAllApart_54 1 rfl ?_
      refine j_iload_n C dX12_areAllApart_55 4 rfl ?_
      refine j_iload C dX12_areAllApart_56 5 rfl ?_
      refine k_X12_166_X12_areApart C dX12_areAllApart_58 hE (Nat.le_of_ble_eq_true rfl) (Nat.le_of_ble_eq_true rfl) (Nat.le_of_ble_eq_true rfl) (fun v2 S1 hE => ?_)
      refine j_if_eq (tgt := 68) C dX12_areAllApart_61 rfl hE (fun hE => ?_) (fun hE => ?_)
      · refine j_sub [1, 2, 4, 5] rfl ?_
        exact p_X12_areAllApart_68 C Q hg hk76 x1 x3 x4 S1 hE
      · refine j_sub [1, 2, 4, 5] rfl ?_
        exact p_X12_areAllApart_64 C Q hg hk76 x1 x3 x4 S1 hE
set_option maxRecDepth 100000 in
theorem p_X12_areAllApart_42 {X : jX} {D : va_G} {ad : Nat → Nat} {cy : Nat → ClassId} (C : jC X (jMain D ad cy) RX12 cX12_areAllApart (some .boolean) 6 2 43) {z : Int32 × jS} (Q : jRet X (jMain D ad cy) (some (.int z.1), z.2)) {g : Int32 → Int32 → Int32 → Int32 → jS → Option (Int32 × jS)} (hg : ∀ (x1 : Int32) (x2 : Int32) (x3 : Int32) (x4 : Int32) (S : jS), g x1 x2 x3 x4 S = some z → jJ X (jMain D ad cy) 13 [(0, .ref (ad 41)), (1, .int x1), (2, .int x2), (3, .int x3), (4, .int x4)] [] S) {k76 : Int32 → Int32 → Int32 → jS → Option (Int32 × jS)} (hk76 : ∀ (x1 : Int32) (x2 : Int32) (x3 : Int32) (S : jS), k76 x1 x2 x3 S = some z → jJ X (jMain D ad cy) 76 [(0, .ref (ad 41)), (1, .int x1), (2, .int x2), (3, .int x3)] [] S) (x1 : Int32) (x2 : Int32) (x3 : Int32) (x4 : Int32) (S : jS) (hE : f_X12_areAllApart_42 g k76 x1 x2 x3 x4 S = some z) : jJ X (jMain D ad cy) 42 [(0, .ref (ad 41)), (1, .int x1), (2, .int x2), (3, .int x3), (4, .int x4)] [] S := by
  unfold f_X12_areAllApart_42 at hE
  refine j_iconst (v := 0) C dX12_areAllApart_42 jc_ic_0 ?_
  exact p_X12_areAllApart_43 C Q hg hk76 0 x1 x2 x3 x4 S hE
set_option maxRecDepth 100000 in
theorem p_X12_areAllApart_13 {X : jX} {D : va_G} {ad : Nat → Nat} {cy : Nat → ClassId} (C : jC X (jMain D ad cy) RX12 cX12_areAllApart (some .boolean) 6 2 43) {z : Int32 × jS} (Q : jRet X (jMain D ad cy) (some (.int z.1), z.2)) {g : Int32 → Int32 → Int32 → Int32 → jS → Option (Int32 × jS)} (hg : ∀ (x1 : Int32) (x2 : Int32) (x3 : Int32) (x4 : Int32) (S : jS), g x1 x2 x3 x4 S = some z → jJ X (jMain D ad cy) 13 [(0, .ref (ad 41)), (1, .int x1), (2, .int x2), (3, .int x3), (4, .int x4)] [] S) {k76 : Int32 → Int32 → Int32 → jS → Option (Int32 × jS)} (hk76 : ∀ (x1 : Int32) (x2 : Int32) (x3 : Int32) (S : jS), k76 x1 x2 x3 S = some z → jJ X (jMain D ad cy) 76 [(0, .ref (ad 41)), (1, .int x1), (2, .int x2), (3, .int x3)] [] S) (x1 : Int32) (x2 : Int32) (x3 : Int32) (x4 : Int32) (S : jS) (hE : f_X12_areAllApart_13 g k76 x1 x2 x3 x4 S = some z) : jJ X (jMain D ad cy) 13 [(0, .ref (ad 41)), (1, .int x1), (2, .int x2), (3, .int x3), (4, .int x4)] [] S := by
  unfold f_X12_areAllApart_13 at hE
  refine j_iload C dX12_areAllApart_13 4 rfl ?_
  refine j_iload_n C dX12_areAllApart_15 3 rfl ?_
  refine j_icmp_ge (tgt := 76) C dX12_areAllApart_16 rfl hE (fun hE => ?_) (fun hE => ?_)
  · refine j_sub [0, 1, 2, 3] rfl ?_
    exact hk76 x1 x2 x3 S hE
  · refine j_iload_n C dX12_areAllApart_19 1 rfl ?_
    refine j_iload_n C dX12_areAllApart_20 3 rfl ?_
    refine j_ishr C dX12_areAllApart_21 ?_
    refine j_iconst (v := 1) C dX12_areAllApart_22 jc_ic_1 ?_
    refine j_iand C dX12_areAllApart_23 ?_
    refine j_iconst (v := 1) C dX12_areAllApart_24 jc_ic_1 ?_
    refine j_icmp_ne (tgt := 42) C dX12_areAllApart_25 rfl hE (fun hE => ?_) (fun hE => ?_)
    · exact p_X12_areAllApart_42 C Q hg hk76 x1 x2 x3 x4 S hE
    · refine j_iload_n C dX12_areAllApart_28 1 rfl ?_
      refine j_iload C dX12_areAllApart_29 4 rfl ?_
      refine j_ishr C dX12_areAllApart_31 ?_
      refine j_iconst (v := 1) C dX12_areAllApart_32 jc_ic_1 ?_
      refine j_iand C dX12_areAllApart_33 ?_
      refine j_iconst (v := 1) C dX12_areAllApart_34 jc_ic_1 ?_
      refine j_icmp_ne (tgt := 42) C dX12_areAllApart_35 rfl hE (fun hE => ?_) (fun hE => ?_)
      · exact p_X12_areAllApart_42 C Q hg hk76 x1 x2 x3 x4 S hE
      · refine j_iconst (v := 1) C dX12_areAllApart_38 jc_ic_1 ?_
        refine j_goto (tgt := 43) C dX12_areAllApart_39 rfl ?_
        exact p_X12_areAllApart_43 C Q hg hk76 1 x1 x2 x3 x4 S hE
theorem q_X12_areAllApart_13 {X : jX} {D : va_G} {ad : Nat → Nat} {cy : Nat → ClassId} (C : jC X (jMain D ad cy) RX12 cX12_areAllApart (some .boolean) 6 2 43) {z : Int32 × jS} (Q : jRet X (jMain D ad cy) (some (.int z.1), z.2)) {k76 : Int32 → Int32 → Int32 → jS → Option (Int32 × jS)} (hk76 : ∀ (x1 : Int32) (x2 : Int32) (x3 : Int32) (S : jS), k76 x1 x2 x3 S = some z → jJ X (jMain D ad cy) 76 [(0, .ref (ad 41)), (1, .int x1), (2, .int x2), (3, .int x3)] [] S) (x1 : Int32) (x2 : Int32) (x3 : Int32) (x4 : Int32) (S : jS) (hE : lp_X12_areAllApart_13 k76 x1 x2 x3 x4 S = some z) : jJ X (jMain D ad cy) 13 [(0, .ref (ad 41)), (1, .int x1), (2, .int x2), (3, .int x3), (4, .int x4)] [] S :=
  jloop_P (α := Int32 × Int32 × Int32 × Int32 × jS) (B := (fun g q => f_X12_areAllApart_13 (fun x1 x2 x3 x4 S => g (x1, x2, x3, x4, S)) k76 q.1 q.2.1 q.2.2.1 q.2.2.2.1 q.2.2.2.2)) (P := fun q => jJ X (jMain D ad cy) 13 [(0, .ref (ad 41)), (1, .int q.1), (2, .int q.2.1), (3, .int q.2.2.1), (4, .int q.2.2.2.1)] [] q.2.2.2.2) (fun g q hg h => p_X12_areAllApart_13 C Q (g := fun x1 x2 x3 x4 S => g (x1, x2, x3, x4, S)) (fun x1 x2 x3 x4 S h => hg (x1, x2, x3, x4, S) h) hk76 q.1 q.2.1 q.2.2.1 q.2.2.2.1 q.2.2.2.2 h) jN (x1, x2, x3, x4, S) hE
set_option maxRecDepth 100000 in
theorem p_X12_areAllApart_76 {X : jX} {D : va_G} {ad : Nat → Nat} {cy : Nat → ClassId} (C : jC X (jMain D ad cy) RX12 cX12_areAllApart (some .boolean) 6 2 43) {z : Int32 × jS} (Q : jRet X (jMain D ad cy) (some (.int z.1), z.2)) {g : Int32 → Int32 → Int32 → jS → Option (Int32 × jS)} (hg : ∀ (x1 : Int32) (x2 : Int32) (x3 : Int32) (S : jS), g x1 x2 x3 S = some z → jJ X (jMain D ad cy) 4 [(0, .ref (ad 41)), (1, .int x1), (2, .int x2), (3, .int x3)] [] S) {k82 : Int32 → jS → Option (Int32 × jS)} (hk82 : ∀ (x2 : Int32) (S : jS), k82 x2 S = some z → jJ X (jMain D ad cy) 82 [(2, .int x2)] [] S) (x1 : Int32) (x2 : Int32) (x3 : Int32) (S : jS) (hE : f_X12_areAllApart_76 g k82 x1 x2 x3 S = some z) : jJ X (jMain D ad cy) 76 [(0, .ref (ad 41)), (1, .int x1), (2, .int x2), (3, .int x3)] [] S := by
  unfold f_X12_areAllApart_76 at hE
  refine j_iinc (v := (x3 + 1)) (lv' := [(3, .int (x3 + 1)), (0, .ref (ad 41)), (1, .int x1), (2, .int x2)]) C dX12_areAllApart_76 3 rfl (congrArg (fun w => x3 + w) jc_ic_1) (by decide) rfl ?_
  refine j_goto (tgt := 4) C dX12_areAllApart_79 rfl ?_
  refine j_sub [1, 2, 3, 0] rfl ?_
  exact hg x1 x2 (x3 + 1) S hE
set_option maxRecDepth 100000 in
theorem p_X12_areAllApart_4 {X : jX} {D : va_G} {ad : Nat → Nat} {cy : Nat → ClassId} (C : jC X (jMain D ad cy) RX12 cX12_areAllApart (some .boolean) 6 2 43) {z : Int32 × jS} (Q : jRet X (jMain D ad cy) (some (.int z.1), z.2)) {g : Int32 → Int32 → Int32 → jS → Option (Int32 × jS)} (hg : ∀ (x1 : Int32) (x2 : Int32) (x3 : Int32) (S : jS), g x1 x2 x3 S = some z → jJ X (jMain D ad cy) 4 [(0, .ref (ad 41)), (1, .int x1), (2, .int x2), (3, .int x3)] [] S) {k82 : Int32 → jS → Option (Int32 × jS)} (hk82 : ∀ (x2 : Int32) (S : jS), k82 x2 S = some z → jJ X (jMain D ad cy) 82 [(2, .int x2)] [] S) (x1 : Int32) (x2 : Int32) (x3 : Int32) (S : jS) (hE : f_X12_areAllApart_4 g k82 x1 x2 x3 S = some z) : jJ X (jMain D ad cy) 4 [(0, .ref (ad 41)), (1, .int x1), (2, .int x2), (3, .int x3)] [] S := by
  unfold f_X12_areAllApart_4 at hE
  refine j_iload_n C dX12_areAllApart_4 3 rfl ?_
  refine j_bipush (v := 8) C dX12_areAllApart_5 jc_bp_8 ?_
  refine j_icmp_ge (tgt := 82) C dX12_areAllApart_7 rfl hE (fun hE => ?_) (fun hE => ?_)
  · refine j_sub [2] rfl ?_
    exact hk82 x2 S hE
  · refine j_iconst (v := 0) C dX12_areAllApart_10 jc_ic_0 ?_
    refine j_istore (lv' := [(4, .int 0), (0, .ref (ad 41)), (1, .int x1), (2, .int x2), (3, .int x3)]) C dX12_areAllApart_11 (by decide) rfl ?_
    refine j_sub [1, 2, 3, 4, 0] rfl ?_
    exact q_X12_areAllApart_13 C Q (p_X12_areAllApart_76 C Q hg hk82) x1 x2 x3 0 S hE
theorem q_X12_areAllApart_4 {X : jX} {D : va_G} {ad : Nat → Nat} {cy : Nat → ClassId} (C : jC X (jMain D ad cy) RX12 cX12_areAllApart (some .boolean) 6 2 43) {z : Int32 × jS} (Q : jRet X (jMain D ad cy) (some (.int z.1), z.2)) {k82 : Int32 → jS → Option (Int32 × jS)} (hk82 : ∀ (x2 : Int32) (S : jS), k82 x2 S = some z → jJ X (jMain D ad cy) 82 [(2, .int x2)] [] S) (x1 : Int32) (x2 : Int32) (x3 : Int32) (S : jS) (hE : lp_X12_areAllApart_4 k82 x1 x2 x3 S = some z) : jJ X (jMain D ad cy) 4 [(0, .ref (ad 41)), (1, .int x1), (2, .int x2), (3, .int x3)] [] S :=
  jloop_P (α := Int32 × Int32 × Int32 × jS) (B := (fun g q => f_X12_areAllApart_4 (fun x1 x2 x3 S => g (x1, x2, x3, S)) k82 q.1 q.2.1 q.2.2.1 q.2.2.2)) (P := fun q => jJ X (jMain D ad cy) 4 [(0, .ref (ad 41)), (1, .int q.1), (2, .int q.2.1), (3, .int q.2.2.1)] [] q.2.2.2) (fun g q hg h => p_X12_areAllApart_4 C Q (g := fun x1 x2 x3 S => g (x1, x2, x3, S)) (fun x1 x2 x3 S h => hg (x1, x2, x3, S) h) hk82 q.1 q.2.1 q.2.2.1 q.2.2.2 h) jN (x1, x2, x3, S) hE
set_option maxRecDepth 100000 in
theorem p_X12_areAllApart_82 {X : jX} {D : va_G} {ad : Nat → Nat} {cy : Nat → ClassId} (C : jC X (jMain D ad cy) RX12 cX12_areAllApart (some .boolean) 6 2 43) {z : Int32 × jS} (Q : jRet X (jMain D ad cy) (some (.int z.1), z.2))  (x2 : Int32) (S : jS) (hE : f_X12_areAllApart_82  x2 S = some z) : jJ X (jMain D ad cy) 82 [(2, .int x2)] [] S := by
  unfold f_X12_areAllApart_82 at hE
  refine j_iload_n C dX12_areAllApart_82 0 rfl ?_
  exact j_zret C Q dX12_areAllApart_83 hE
set_option maxRecDepth 100000 in
theorem p_X12_areAllApart_e {X : jX} {D : va_G} {ad : Nat → Nat} {cy : Nat → ClassId} (C : jC X (jMain D ad cy) RX12 cX12_areAllApart (some .boolean) 6 2 43) {z : Int32 × jS} (Q : jRet X (jMain D ad cy) (some (.int z.1), z.2))  (x1 : Int32) (S : jS) (hE : f_X12_areAllApart_e  x1 S = some z) : jJ X (jMain D ad cy) 0 [(0, .ref (ad 41)), (1, .int x1)] [] S := by
  unfold f_X12_areAllApart_e at hE
  refine j_iconst (v := 1) C dX12_areAllApart_0 jc_ic_1 ?_
  refine j_istore_n (i := 2) (lv' := [(2, .int 1), (0, .ref (ad 41)), (1, .int x1)]) C dX12_areAllApart_1 rfl (by decide) rfl ?_
  refine j_iconst (v := 0) C dX12_areAllApart_2 jc_ic_0 ?_
  refine j_istore_n (i := 3) (lv' := [(3, .int 0), (2, .int 1), (0, .ref (ad 41)), (1, .int x1)]) C dX12_areAllApart_3 rfl (by decide) rfl ?_
  refine j_sub [2, 3, 1, 0] rfl ?_
  exact q_X12_areAllApart_4 C Q (p_X12_areAllApart_82 C Q ) x1 1 0 S hE
theorem c_X12_areAllApart {l : Launch} {D : va_G} {ad : Nat → Nat} {cy : Nat → ClassId} (hO : jOk (jMain D ad cy)) (x1 : Int32) (S : jS) {z : Int32 × jS} (hz : f_X12_areAllApart x1 S = some z) : Met l yX12_areAllApart (.code yX12_areAllApart cX12_areAllApart 6 (some .boolean) :: jT) { frames := 2, cells := 0, slots := 0, locals := 43 } (va_Pc [.ref (ad 41), .int x1] (jInv (jMain D ad cy) S)) (jQ (jMain D ad cy) (some (.int z.1), z.2)) 0 0 (yA (jMain D ad cy)) :=
  jMet hO (by decide +kernel) rfl (Nat.le_of_ble_eq_true rfl) (fun X _ C Q => p_X12_areAllApart_e C Q x1 S hz)
theorem k_X12_172_X12_areAllApart {X : jX} {D : va_G} {ad : Nat → Nat} {cy : Nat → ClassId} {cc : ByteArray} {ret : Option FieldType} {nL fr lo pc : Nat} {lv : List (Nat × Value)} {st : List Value} {S : jS} {β : Type} {z : β} (C : jC X (jMain D ad cy) RX12 cc ret nL fr lo) {a0 : Int32} {E : Int32 → jS → Option β} (d : decode cc pc = .ok (.invokevirtual 172, 3)) (hE : jcl (f_X12_areAllApart a0 S) E = some z) (hfr : 3 ≤ fr) (hlo : 68 ≤ lo) (hst : (st.map fun v => v.category).sum ≤ 8) (K : ∀ (v : Int32) (S1 : jS), E v S1 = some z → jJ X (jMain D ad cy) (pc + 3) lv (.int v :: st) S1) : jJ X (jMain D ad cy) pc lv (.int a0 :: .ref (ad 41) :: st) S := by
  obtain ⟨v, h1, h2⟩ := jcl_some hE
  exact j_callV (k := 41) (ci := 12) (T := TX12) (N := 25) (n := 1) (As := [.int a0]) C (c_X12_areAllApart C.2.2.2.2.2.2.1 a0 S h1) tw_1122 tw_1124 tw_54 tw_82 tw_1125 (by decide +kernel) rfl (by decide : 41 < 56) rfl rfl hfr hlo hst rfl d (K _ _ h2)
set_option maxRecDepth 100000 in
theorem p_X12_greatest_75 {X : jX} {D : va_G} {ad : Nat → Nat} {cy : Nat → ClassId} (C : jC X (jMain D ad cy) RX12 cX12_greatest (some .int) 5 3 68) {z : Int32 × jS} (Q : jRet X (jMain D ad cy) (some (.int z.1), z.2)) {g : Int32 → Int32 → Int32 → jS → Option (Int32 × jS)} (hg : ∀ (x1 : Int32) (x2 : Int32) (x3 : Int32) (S : jS), g x1 x2 x3 S = some z → jJ X (jMain D ad cy) 21 [(0, .ref (ad 41)), (1, .int x1), (2, .int x2), (3, .int x3)] [] S) {k82 : Int32 → Int32 → jS → Option (Int32 × jS)} (hk82 : ∀ (x1 : Int32) (x2 : Int32) (S : jS), k82 x1 x2 S = some z → jJ X (jMain D ad cy) 82 [(1, .int x1), (2, .int x2)] [] S) (a0 : Int32) (x1 : Int32) (x3 : Int32) (S : jS) (hE : f_X12_greatest_75 g k82 a0 x1 x3 S = some z) : jJ X (jMain D ad cy) 75 [(0, .ref (ad 41)), (1, .int x1), (3, .int x3)] [.int a0] S := by
  unfold f_X12_greatest_75 at hE
  refine j_istore_n (i := 2) (lv' := [(2, .int a0), (0, .ref (ad 41)), (1, .int x1), (3, .int x3)]) C dX12_greatest_75 rfl (by decide) rfl ?_
  refine j_iinc (v := (x3 + 1)) (lv' := [(3, .int (x3 + 1)), (2, .int a0), (0, .ref (ad 41)), (1, .int x1)]) C dX12_greatest_76 3 rfl (congrArg (fun w => x3 + w) jc_ic_1) (by decide) rfl ?_
  refine j_goto (tgt := 21) C dX12_greatest_79 rfl ?_
  refine j_sub [2, 3, 1, 0] rfl ?_
  exact hg x1 a0 (x3 + 1) S hE
set_option maxRecDepth 100000 in
theorem p_X12_greatest_74 {X : jX} {D : va_G} {ad : Nat → Nat} {cy : Nat → ClassId} (C : jC X (jMain D ad cy) RX12 cX12_greatest (some .int) 5 3 68) {z : Int32 × jS} (Q : jRet X (jMain D ad cy) (some (.int z.1), z.2)) {g : Int32 → Int32 → Int32 → jS → Option (Int32 × jS)} (hg : ∀ (x1 : Int32) (x2 : Int32) (x3 : Int32) (S : jS), g x1 x2 x3 S = some z → jJ X (jMain D ad cy) 21 [(0, .ref (ad 41)), (1, .int x1), (2, .int x2), (3, .int x3)] [] S) {k82 : Int32 → Int32 → jS → Option (Int32 × jS)} (hk82 : ∀ (x1 : Int32) (x2 : Int32) (S : jS), k82 x1 x2 S = some z → jJ X (jMain D ad cy) 82 [(1, .int x1), (2, .int x2)] [] S) (x1 : Int32) (x2 : Int32) (x3 : Int32) (S : jS) (hE : f_X12_greatest_74 g k82 x1 x2 x3 S = some z) : jJ X (jMain D ad cy) 74 [(0, .ref (ad 41)), (1, .int x1), (2, .int x2), (3, .int x3)] [] S := by
  unfold f_X12_greatest_74 at hE
  refine j_iload_n C dX12_greatest_74 2 rfl ?_
  refine j_sub [0, 1, 3] rfl ?_
  exact p_X12_greatest_75 C Q hg hk82 x2 x1 x3 S hE
set_option maxRecDepth 100000 in
theorem p_X12_greatest_55 {X : jX} {D : va_G} {ad : Nat → Nat} {cy : Nat → ClassId} (C : jC X (jMain D ad cy) RX12 cX12_greatest (some .int) 5 3 68) {z : Int32 × jS} (Q : jRet X (jMain D ad cy) (some (.int z.1), z.2)) {g : Int32 → Int32 → Int32 → jS → Option (Int32 × jS)} (hg : ∀ (x1 : Int32) (x2 : Int32) (x3 : Int32) (S : jS), g x1 x2 x3 S = some z → jJ X (jMain D ad cy) 21 [(0, .ref (ad 41)), (1, .int x1), (2, .int x2), (3, .int x3)] [] S) {k82 : Int32 → Int32 → jS → Option (Int32 × jS)} (hk82 : ∀ (x1 : Int32) (x2 : Int32) (S : jS), k82 x1 x2 S = some z → jJ X (jMain D ad cy) 82 [(1, .int x1), (2, .int x2)] [] S) (a0 : Int32) (x1 : Int32) (x2 : Int32) (x3 : Int32) (S : jS) (hE : f_X12_greatest_55 g k82 a0 x1 x2 x3 S = some z) : jJ X (jMain D ad cy) 55 [(0, .ref (ad 41)), (1, .int x1), (2, .int x2), (3, .int x3)] [.int a0] S := by
  unfold f_X12_greatest_55 at hE
  refine j_istore (lv' := [(4, .int a0), (0, .ref (ad 41)), (1, .int x1), (2, .int x2), (3, .int x3)]) C dX12_greatest_55 (by decide) rfl ?_
  refine j_iload C dX12_greatest_57 0 rfl ?_
  refine j_if_eq (tgt := 74) C dX12_greatest_59 rfl hE (fun hE => ?_) (fun hE => ?_)
  · refine j_sub [1, 2, 3, 4] rfl ?_
    exact p_X12_greatest_74 C Q hg hk82 x1 x2 x3 S hE
  · refine j_aload_n C dX12_greatest_62 1 rfl ?_
    refine j_iload_n C dX12_greatest_63 4 rfl ?_
    refine k_X12_172_X12_areAllApart C dX12_greatest_64 hE (Nat.le_of_ble_eq_true rfl) (Nat.le_of_ble_eq_true rfl) (Nat.le_of_ble_eq_true rfl) (fun v2 S1 hE => ?_)
    refine j_if_eq (tgt := 74) C dX12_greatest_67 rfl hE (fun hE => ?_) (fun hE => ?_)
    · refine j_sub [1, 2, 3, 4] rfl ?_
      exact p_X12_greatest_74 C Q hg hk82 x1 x2 x3 S1 hE
    · refine j_iload_n C dX12_greatest_70 4 rfl ?_
      refine j_goto (tgt := 75) C dX12_greatest_71 rfl ?_
      refine j_sub [1, 2, 4] rfl ?_
      exact p_X12_greatest_75 C Q hg hk82 x3 x1 x3 S1 hE
set_option maxRecDepth 100000 in
theorem p_X12_greatest_54 {X : jX} {D : va_G} {ad : Nat → Nat} {cy : Nat → ClassId} (C : jC X (jMain D ad cy) RX12 cX12_greatest (some .int) 5 3 68) {z : Int32 × jS} (Q : jRet X (jMain D ad cy) (some (.int z.1), z.2)) {g : Int32 → Int32 → Int32 → jS → Option (Int32 × jS)} (hg : ∀ (x1 : Int32) (x2 : Int32) (x3 : Int32) (S : jS), g x1 x2 x3 S = some z → jJ X (jMain D ad cy) 21 [(0, .ref (ad 41)), (1, .int x1), (2, .int x2), (3, .int x3)] [] S) {k82 : Int32 → Int32 → jS → Option (Int32 × jS)} (hk82 : ∀ (x1 : Int32) (x2 : Int32) (S : jS), k82 x1 x2 S = some z → jJ X (jMain D ad cy) 82 [(1, .int x1), (2, .int x2)] [] S) (x1 : Int32) (x2 : Int32) (x3 : Int32) (S : jS) (hE : f_X12_greatest_54 g k82 x1 x2 x3 S = some z) : jJ X (jMain D ad cy) 54 [(0, .ref (ad 41)), (1, .int x1), (2, .int x2), (3, .int x3)] [] S := by
  unfold f_X12_greatest_54 at hE
  refine j_iconst (v := 0) C dX12_greatest_54 jc_ic_0 ?_
  exact p_X12_greatest_55 C Q hg hk82 0 x1 x2 x3 S hE
set_option maxRecDepth 100000 in
theorem p_X12_greatest_21 {X : jX} {D : va_G} {ad : Nat → Nat} {cy : Nat → ClassId} (C : jC X (jMain D ad cy) RX12 cX12_greatest (some .int) 5 3 68) {z : Int32 × jS} (Q : jRet X (jMain D ad cy) (some (.int z.1), z.2)) {g : Int32 → Int32 → Int32 → jS → Option (Int32 × jS)} (hg : ∀ (x1 : Int32) (x2 : Int32) (x3 : Int32) (S : jS), g x1 x2 x3 S = some z → jJ X (jMain D ad cy) 21 [(0, .ref (ad 41)), (1, .int x1), (2, .int x2), (3, .int x3)] [] S) {k82 : Int32 → Int32 → jS → Option (Int32 × jS)} (hk82 : ∀ (x1 : Int32) (x2 : Int32) (S : jS), k82 x1 x2 S = some z → jJ X (jMain D ad cy) 82 [(1, .int x1), (2, .int x2)] [] S) (x1 : Int32) (x2 : Int32) (x3 : Int32) (S : jS) (hE : f_X12_greatest_21 g k82 x1 x2 x3 S = some z) : jJ X (jMain D ad cy) 21 [(0, .ref (ad 41)), (1, .int x1), (2, .int x2), (3, .int x3)] [] S := by
  unfold f_X12_greatest_21 at hE
  refine j_iload_n C dX12_greatest_21 3 rfl ?_
  refine j_sipush (v := 256) C dX12_greatest_22 jc_sp_256 ?_
  refine j_icmp_ge (tgt := 82) C dX12_greatest_25 rfl hE (fun hE => ?_) (fun hE => ?_)
  · refine j_sub [1, 2] rfl ?_
    exact hk82 x1 x2 S hE
  · refine j_iload_n C dX12_greatest_28 3 rfl ?_
    refine k_X12_95_X12_bits C dX12_greatest_29 hE (Nat.le_of_ble_eq_true rfl) (Nat.le_of_ble_eq_true rfl) (Nat.le_of_ble_eq_true rfl) (fun v2 S1 hE => ?_)
    refine j_iload_n C dX12_greatest_32 2 rfl ?_
    refine k_X12_95_X12_bits C dX12_greatest_33 hE (Nat.le_of_ble_eq_true rfl) (Nat.le_of_ble_eq_true rfl) (Nat.le_of_ble_eq_true rfl) (fun v4 S3 hE => ?_)
    refine j_icmp_le (tgt := 54) C dX12_greatest_36 rfl hE (fun hE => ?_) (fun hE => ?_)
    · exact p_X12_greatest_54 C Q hg hk82 x1 x2 x3 S3 hE
    · refine j_iload_n C dX12_greatest_39 3 rfl ?_
      refine j_aload_n C dX12_greatest_40 0 rfl ?_
      refine k_X12_91_X12_lived C dX12_greatest_41 hE (Nat.le_of_ble_eq_true rfl) (Nat.le_of_ble_eq_true rfl) (Nat.le_of_ble_eq_true rfl) (fun v6 S5 hE => ?_)
      refine j_iconst (v := (-1)) C dX12_greatest_44 jc_ic_m1 ?_
      refine j_ixor C dX12_greatest_45 ?_
      refine j_iand C dX12_greatest_46 ?_
      refine j_if_ne (tgt := 54) C dX12_greatest_47 rfl hE (fun hE => ?_) (fun hE => ?_)
      · exact p_X12_greatest_54 C Q hg hk82 x1 x2 x3 S5 hE
      · refine j_iconst (v := 1) C dX12_greatest_50 jc_ic_1 ?_
        refine j_goto (tgt := 55) C dX12_greatest_51 rfl ?_
        exact p_X12_greatest_55 C Q hg hk82 1 x1 x2 x3 S5 hE
theorem q_X12_greatest_21 {X : jX} {D : va_G} {ad : Nat → Nat} {cy : Nat → ClassId} (C : jC X (jMain D ad cy) RX12 cX12_greatest (some .int) 5 3 68) {z : Int32 × jS} (Q : jRet X (jMain D ad cy) (some (.int z.1), z.2)) {k82 : Int32 → Int32 → jS → Option (Int32 × jS)} (hk82 : ∀ (x1 : Int32) (x2 : Int32) (S : jS), k82 x1 x2 S = some z → jJ X (jMain D ad cy) 82 [(1, .int x1), (2, .int x2)] [] S) (x1 : Int32) (x2 : Int32) (x3 : Int32) (S : jS) (hE : lp_X12_greatest_21 k82 x1 x2 x3 S = some z) : jJ X (jMain D ad cy) 21 [(0, .ref (ad 41)), (1, .int x1), (2, .int x2), (3, .int x3)] [] S :=
  jloop_P (α := Int32 × Int32 × Int32 × jS) (B := (fun g q => f_X12_greatest_21 (fun x1 x2 x3 S => g (x1, x2, x3, S)) k82 q.1 q.2.1 q.2.2.1 q.2.2.2)) (P := fun q => jJ X (jMain D ad cy) 21 [(0, .ref (ad 41)), (1, .int q.1), (2, .int q.2.1), (3, .int q.2.2.1)] [] q.2.2.2) (fun g q hg h => p_X12_greatest_21 C Q (g := fun x1 x2 x3 S => g (x1, x2, x3, S)) (fun x1 x2 x3 S h => hg (x1, x2, x3, S) h) hk82 q.1 q.2.1 q.2.2.1 q.2.2.2 h) jN (x1, x2, x3, S) hE
set_option maxRecDepth 100000 in
theorem p_X12_greatest_94 {X : jX} {D : va_G} {ad : Nat → Nat} {cy : Nat → ClassId} (C : jC X (jMain D ad cy) RX12 cX12_greatest (some .int) 5 3 68) {z : Int32 × jS} (Q : jRet X (jMain D ad cy) (some (.int z.1), z.2))  (a0 : Int32) (S : jS) (hE : f_X12_greatest_94  a0 S = some z) : jJ X (jMain D ad cy) 94 [] [.int a0] S := by
  unfold f_X12_greatest_94 at hE
  exact j_iret C Q dX12_greatest_94 hE
set_option maxRecDepth 100000 in
theorem p_X12_greatest_82 {X : jX} {D : va_G} {ad : Nat → Nat} {cy : Nat → ClassId} (C : jC X (jMain D ad cy) RX12 cX12_greatest (some .int) 5 3 68) {z : Int32 × jS} (Q : jRet X (jMain D ad cy) (some (.int z.1), z.2))  (x1 : Int32) (x2 : Int32) (S : jS) (hE : f_X12_greatest_82  x1 x2 S = some z) : jJ X (jMain D ad cy) 82 [(1, .int x1), (2, .int x2)] [] S := by
  unfold f_X12_greatest_82 at hE
  refine j_iload_n C dX12_greatest_82 0 rfl ?_
  refine j_if_ne (tgt := 93) C dX12_greatest_83 rfl hE (fun hE => ?_) (fun hE => ?_)
  · refine j_iload_n C dX12_greatest_93 1 rfl ?_
    refine j_sub [] rfl ?_
    exact p_X12_greatest_94 C Q  x2 S hE
  · refine j_iload_n C dX12_greatest_86 1 rfl ?_
    refine k_X12_95_X12_bits C dX12_greatest_87 hE (Nat.le_of_ble_eq_true rfl) (Nat.le_of_ble_eq_true rfl) (Nat.le_of_ble_eq_true rfl) (fun v2 S1 hE => ?_)
    refine j_goto (tgt := 94) C dX12_greatest_90 rfl ?_
    refine j_sub [] rfl ?_
    exact p_X12_greatest_94 C Q  v2 S1 hE
set_option maxRecDepth 100000 in
theorem p_X12_greatest_e {X : jX} {D : va_G} {ad : Nat → Nat} {cy : Nat → ClassId} (C : jC X (jMain D ad cy) RX12 cX12_greatest (some .int) 5 3 68) {z : Int32 × jS} (Q : jRet X (jMain D ad cy) (some (.int z.1), z.2))  (x1 : Int32) (S : jS) (hE : f_X12_greatest_e  x1 S = some z) : jJ X (jMain D ad cy) 0 [(0, .ref (ad 41)), (1, .int x1)] [] S := by
  unfold f_X12_greatest_e at hE
  refine j_iload_n C dX12_greatest_0 1 rfl ?_
  refine j_i2l C dX12_greatest_1 ?_
  refine j_lconst (v := 0) C dX12_greatest_2 jc_lc_0 ?_
  refine j_lconst (v := 1) C dX12_greatest_3 jc_lc_1 ?_
  refine k_X12_59_X12_in C dX12_greatest_4 hE (Nat.le_of_ble_eq_true rfl) (Nat.le_of_ble_eq_true rfl) (Nat.le_of_ble_eq_true rfl) (fun v2 S1 hE => ?_)
  refine j_if_ne (tgt := 17) C dX12_greatest_7 rfl hE (fun hE => ?_) (fun hE => ?_)
  · refine j_iconst (v := 0) C dX12_greatest_17 jc_ic_0 ?_
    refine j_istore_n (i := 2) (lv' := [(2, .int 0), (0, .ref (ad 41)), (1, .int x1)]) C dX12_greatest_18 rfl (by decide) rfl ?_
    refine j_iconst (v := 0) C dX12_greatest_19 jc_ic_0 ?_
    refine j_istore_n (i := 3) (lv' := [(3, .int 0), (2, .int 0), (0, .ref (ad 41)), (1, .int x1)]) C dX12_greatest_20 rfl (by decide) rfl ?_
    refine j_sub [2, 3, 1, 0] rfl ?_
    exact q_X12_greatest_21 C Q (p_X12_greatest_82 C Q ) x1 0 0 S1 hE
  · refine j_aload_n C dX12_greatest_10 0 rfl ?_
    refine j_bipush (v := (-2)) C dX12_greatest_11 jc_bp_m2 ?_
    refine k_X12_87_X12_bad C dX12_greatest_13 hE (Nat.le_of_ble_eq_true rfl) (Nat.le_of_ble_eq_true rfl) (Nat.le_of_ble_eq_true rfl) (fun v4 S3 hE => ?_)
    exact j_iret C Q dX12_greatest_16 hE
theorem c_X12_greatest {l : Launch} {D : va_G} {ad : Nat → Nat} {cy : Nat → ClassId} (hO : jOk (jMain D ad cy)) (x1 : Int32) (S : jS) {z : Int32 × jS} (hz : f_X12_greatest x1 S = some z) : Met l yX12_greatest (.code yX12_greatest cX12_greatest 5 (some .int) :: jT) { frames := 3, cells := 0, slots := 0, locals := 68 } (va_Pc [.ref (ad 41), .int x1] (jInv (jMain D ad cy) S)) (jQ (jMain D ad cy) (some (.int z.1), z.2)) 0 0 (yA (jMain D ad cy)) :=
  jMet hO (by decide +kernel) rfl (Nat.le_of_ble_eq_true rfl) (fun X _ C Q => p_X12_greatest_e C Q x1 S hz)
set_option maxRecDepth 100000 in
theorem p_X4_isApart_38 {X : jX} {D : va_G} {ad : Nat → Nat} {cy : Nat → ClassId} (C : jC X (jMain D ad cy) RX4 cX4_isApart (some .boolean) 4 0 0) {z : Int32 × jS} (Q : jRet X (jMain D ad cy) (some (.int z.1), z.2)) {g : Int32 → Int32 → jS → Option (Int32 × jS)} (hg : ∀ (x1 : Int32) (x2 : Int32) (S : jS), g x1 x2 S = some z → jJ X (jMain D ad cy) 2 [(0, .ref (ad 12)), (1, .int x1), (2, .int x2)] [] S) {k36 : jS → Option (Int32 × jS)} (hk36 : ∀  (S : jS), k36  S = some z → jJ X (jMain D ad cy) 36 [] [] S) {k44 : jS → Option (Int32 × jS)} (hk44 : ∀  (S : jS), k44  S = some z → jJ X (jMain D ad cy) 44 [] [] S) (x1 : Int32) (x2 : Int32) (S : jS) (hE : f_X4_isApart_38 g k36 k44 x1 x2 S = some z) : jJ X (jMain D ad cy) 38 [(0, .ref (ad 12)), (1, .int x1), (2, .int x2)] [] S := by
  unfold f_X4_isApart_38 at hE
  refine j_iinc (v := (x2 + 1)) (lv' := [(2, .int (x2 + 1)), (0, .ref (ad 12)), (1, .int x1)]) C dX4_isApart_38 2 rfl (congrArg (fun w => x2 + w) jc_ic_1) (by decide) rfl ?_
  refine j_goto (tgt := 2) C dX4_isApart_41 rfl ?_
  refine j_sub [1, 2, 0] rfl ?_
  exact hg x1 (x2 + 1) S hE
set_option maxRecDepth 100000 in
theorem p_X4_isApart_2 {X : jX} {D : va_G} {ad : Nat → Nat} {cy : Nat → ClassId} (C : jC X (jMain D ad cy) RX4 cX4_isApart (some .boolean) 4 0 0) {z : Int32 × jS} (Q : jRet X (jMain D ad cy) (some (.int z.1), z.2)) {g : Int32 → Int32 → jS → Option (Int32 × jS)} (hg : ∀ (x1 : Int32) (x2 : Int32) (S : jS), g x1 x2 S = some z → jJ X (jMain D ad cy) 2 [(0, .ref (ad 12)), (1, .int x1), (2, .int x2)] [] S) {k36 : jS → Option (Int32 × jS)} (hk36 : ∀  (S : jS), k36  S = some z → jJ X (jMain D ad cy) 36 [] [] S) {k44 : jS → Option (Int32 × jS)} (hk44 : ∀  (S : jS), k44  S = some z → jJ X (jMain D ad cy) 44 [] [] S) (x1 : Int32) (x2 : Int32) (S : jS) (hE : f_X4_isApart_2 g k36 k44 x1 x2 S = some z) : jJ X (jMain D ad cy) 2 [(0, .ref (ad 12)), (1, .int x1), (2, .int x2)] [] S := by
  unfold f_X4_isApart_2 at hE
  refine j_iload_n C dX4_isApart_2 2 rfl ?_
  refine j_aload_n C dX4_isApart_3 0 rfl ?_
  refine g_X4_41_12 C dX4_isApart_4 ?_
  refine j_icmp_ge (tgt := 44) C dX4_isApart_7 rfl hE (fun hE => ?_) (fun hE => ?_)
  · refine j_sub [] rfl ?_
    exact hk44  S hE
  · refine j_iload_n C dX4_isApart_10 1 rfl ?_
    refine j_iconst (v := 1) C dX4_isApart_11 jc_ic_1 ?_
    refine j_iload_n C dX4_isApart_12 2 rfl ?_
    refine j_ishl C dX4_isApart_13 ?_
    refine j_iconst (v := (-1)) C dX4_isApart_14 jc_ic_m1 ?_
    refine j_ixor C dX4_isApart_15 ?_
    refine j_iand C dX4_isApart_16 ?_
    refine j_istore_n (i := 3) (lv' := [(3, .int (x1 &&& ((1 <<< (x2 &&& 31)) ^^^ (-1)))), (0, .ref (ad 12)), (1, .int x1), (2, .int x2)]) C dX4_isApart_17 rfl (by decide) rfl ?_
    refine j_iload_n C dX4_isApart_18 0 rfl ?_
    refine j_iload_n C dX4_isApart_19 2 rfl ?_
    refine j_icmp_eq (tgt := 38) C dX4_isApart_20 rfl hE (fun hE => ?_) (fun hE => ?_)
    · refine j_sub [1, 2, 3] rfl ?_
      exact p_X4_isApart_38 C Q hg hk36 hk44 x1 x2 S hE
    · refine j_iload_n C dX4_isApart_23 0 rfl ?_
      refine j_aload_n C dX4_isApart_24 1 rfl ?_
      refine g_X4_18_12 C dX4_isApart_25 ?_
      refine j_iload_n C dX4_isApart_28 3 rfl ?_
      refine l_15 C dX4_isApart_29 hE (fun v1 hE => ?_)
      refine j_iconst (v := (-1)) C dX4_isApart_30 jc_ic_m1 ?_
      refine j_ixor C dX4_isApart_31 ?_
      refine j_iand C dX4_isApart_32 ?_
      refine j_if_eq (tgt := 38) C dX4_isApart_33 rfl hE (fun hE => ?_) (fun hE => ?_)
      · refine j_sub [1, 2, 3] rfl ?_
        exact p_X4_isApart_38 C Q hg hk36 hk44 x1 x2 S hE
      · refine j_sub [] rfl ?_
        exact hk36  S hE
theorem q_X4_isApart_2 {X : jX} {D : va_G} {ad : Nat → Nat} {cy : Nat → ClassId} (C : jC X (jMain D ad cy) RX4 cX4_isApart (some .boolean) 4 0 0) {z : Int32 × jS} (Q : jRet X (jMain D ad cy) (some (.int z.1), z.2)) {k36 : jS → Option (Int32 × jS)} (hk36 : ∀  (S : jS), k36  S = some z → jJ X (jMain D ad cy) 36 [] [] S) {k44 : jS → Option (Int32 × jS)} (hk44 : ∀  (S : jS), k44  S = some z → jJ X (jMain D ad cy) 44 [] [] S) (x1 : Int32) (x2 : Int32) (S : jS) (hE : lp_X4_isApart_2 k36 k44 x1 x2 S = some z) : jJ X (jMain D ad cy) 2 [(0, .ref (ad 12)), (1, .int x1), (2, .int x2)] [] S :=
  jloop_P (α := Int32 × Int32 × jS) (B := (fun g q => f_X4_isApart_2 (fun x1 x2 S => g (x1, x2, S)) k36 k44 q.1 q.2.1 q.2.2)) (P := fun q => jJ X (jMain D ad cy) 2 [(0, .ref (ad 12)), (1, .int q.1), (2, .int q.2.1)] [] q.2.2) (fun g q hg h => p_X4_isApart_2 C Q (g := fun x1 x2 S => g (x1, x2, S)) (fun x1 x2 S h => hg (x1, x2, S) h) hk36 hk44 q.1 q.2.1 q.2.2 h) jN (x1, x2, S) hE
set_option maxRecDepth 100000 in
theorem p_X4_isApart_36 {X : jX} {D : va_G} {ad : Nat → Nat} {cy : Nat → ClassId} (C : jC X (jMain D ad cy) RX4 cX4_isApart (some .boolean) 4 0 0) {z : Int32 × jS} (Q : jRet X (jMain D ad cy) (some (.int z.1), z.2))   (S : jS) (hE : f_X4_isApart_36   S = some z) : jJ X (jMain D ad cy) 36 [] [] S := by
  unfold f_X4_isApart_36 at hE
  refine j_iconst (v := 0) C dX4_isApart_36 jc_ic_0 ?_
  exact j_zret C Q dX4_isApart_37 hE
set_option maxRecDepth 100000 in
theorem p_X4_isApart_44 {X : jX} {D : va_G} {ad : Nat → Nat} {cy : Nat → ClassId} (C : jC X (jMain D ad cy) RX4 cX4_isApart (some .boolean) 4 0 0) {z : Int32 × jS} (Q : jRet X (jMain D ad cy) (some (.int z.1), z.2))   (S : jS) (hE : f_X4_isApart_44   S = some z) : jJ X (jMain D ad cy) 44 [] [] S := by
  unfold f_X4_isApart_44 at hE
  refine j_iconst (v := 1) C dX4_isApart_44 jc_ic_1 ?_
  exact j_zret C Q dX4_isApart_45 hE
set_option maxRecDepth 100000 in
theorem p_X4_isApart_e {X : jX} {D : va_G} {ad : Nat → Nat} {cy : Nat → ClassId} (C : jC X (jMain D ad cy) RX4 cX4_isApart (some .boolean) 4 0 0) {z : Int32 × jS} (Q : jRet X (jMain D ad cy) (some (.int z.1), z.2))  (x1 : Int32) (S : jS) (hE : f_X4_isApart_e  x1 S = some z) : jJ X (jMain D ad cy) 0 [(0, .ref (ad 12)), (1, .int x1)] [] S := by
  unfold f_X4_isApart_e at hE
  refine j_iconst (v := 0) C dX4_isApart_0 jc_ic_0 ?_
  refine j_istore_n (i := 2) (lv' := [(2, .int 0), (0, .ref (ad 12)), (1, .int x1)]) C dX4_isApart_1 rfl (by decide) rfl ?_
  refine j_sub [1, 2, 0] rfl ?_
  exact q_X4_isApart_2 C Q (p_X4_isApart_36 C Q ) (p_X4_isApart_44 C Q ) x1 0 S hE
theorem c_X4_isApart {l : Launch} {D : va_G} {ad : Nat → Nat} {cy : Nat → ClassId} (hO : jOk (jMain D ad cy)) (x1 : Int32) (S : jS) {z : Int32 × jS} (hz : f_X4_isApart x1 S = some z) : Met l yX4_isApart (.code yX4_isApart cX4_isApart 4 (some .boolean) :: jT) { frames := 0, cells := 0, slots := 0, locals := 0 } (va_Pc [.ref (ad 12), .int x1] (jInv (jMain D ad cy) S)) (jQ (jMain D ad cy) (some (.int z.1), z.2)) 0 0 (yA (jMain D ad cy)) :=
  jMet hO (by decide +kernel) rfl (Nat.le_of_ble_eq_true rfl) (fun X _ C Q => p_X4_isApart_e C Q x1 S hz)
theorem k_X4_82_X4_isApart {X : jX} {D : va_G} {ad : Nat → Nat} {cy : Nat → ClassId} {cc : ByteArray} {ret : Option FieldType} {nL fr lo pc : Nat} {lv : List (Nat × Value)} {st : List Value} {S : jS} {β : Type} {z : β} (C : jC X (jMain D ad cy) RX4 cc ret nL fr lo) {a0 : Int32} {E : Int32 → jS → Option β} (d : decode cc pc = .ok (.invokevirtual 82, 3)) (hE : jcl (f_X4_isApart a0 S) E = some z) (hfr : 1 ≤ fr) (hlo : 23 ≤ lo) (hst : (st.map fun v => v.category).sum ≤ 8) (K : ∀ (v : Int32) (S1 : jS), E v S1 = some z → jJ X (jMain D ad cy) (pc + 3) lv (.int v :: st) S1) : jJ X (jMain D ad cy) pc lv (.int a0 :: .ref (ad 12) :: st) S := by
  obtain ⟨v, h1, h2⟩ := jcl_some hE
  exact j_callV (k := 12) (ci := 4) (T := TX4) (N := 7) (n := 1) (As := [.int a0]) C (c_X4_isApart C.2.2.2.2.2.2.1 a0 S h1) tw_696 tw_698 tw_21 tw_79 tw_699 (by decide +kernel) rfl (by decide : 12 < 56) rfl rfl hfr hlo hst rfl d (K _ _ h2)
set_option maxRecDepth 100000 in
theorem p_X4_housesOf_4 {X : jX} {D : va_G} {ad : Nat → Nat} {cy : Nat → ClassId} (C : jC X (jMain D ad cy) RX4 cX4_housesOf (some .int) 4 0 0) {z : Int32 × jS} (Q : jRet X (jMain D ad cy) (some (.int z.1), z.2)) {g : Int32 → Int32 → Int32 → jS → Option (Int32 × jS)} (hg : ∀ (x1 : Int32) (x2 : Int32) (x3 : Int32) (S : jS), g x1 x2 x3 S = some z → jJ X (jMain D ad cy) 4 [(0, .ref (ad 12)), (1, .int x1), (2, .int x2), (3, .int x3)] [] S) {k33 : Int32 → jS → Option (Int32 × jS)} (hk33 : ∀ (x2 : Int32) (S : jS), k33 x2 S = some z → jJ X (jMain D ad cy) 33 [(2, .int x2)] [] S) (x1 : Int32) (x2 : Int32) (x3 : Int32) (S : jS) (hE : f_X4_housesOf_4 g k33 x1 x2 x3 S = some z) : jJ X (jMain D ad cy) 4 [(0, .ref (ad 12)), (1, .int x1), (2, .int x2), (3, .int x3)] [] S := by
  unfold f_X4_housesOf_4 at hE
  refine j_iload_n C dX4_housesOf_4 3 rfl ?_
  refine j_aload_n C dX4_housesOf_5 0 rfl ?_
  refine g_X4_41_12 C dX4_housesOf_6 ?_
  refine j_icmp_ge (tgt := 33) C dX4_housesOf_9 rfl hE (fun hE => ?_) (fun hE => ?_)
  · refine j_sub [2] rfl ?_
    exact hk33 x2 S hE
  · refine j_iload_n C dX4_housesOf_12 2 rfl ?_
    refine j_iload_n C dX4_housesOf_13 1 rfl ?_
    refine j_iload_n C dX4_housesOf_14 3 rfl ?_
    refine j_ishr C dX4_housesOf_15 ?_
    refine j_iconst (v := 1) C dX4_housesOf_16 jc_ic_1 ?_
    refine j_iand C dX4_housesOf_17 ?_
    refine j_aload_n C dX4_housesOf_18 0 rfl ?_
    refine g_X4_15_12 C dX4_housesOf_19 ?_
    refine j_iload_n C dX4_housesOf_22 3 rfl ?_
    refine l_14 C dX4_housesOf_23 hE (fun v1 hE => ?_)
    refine j_ishl C dX4_housesOf_24 ?_
    refine j_ior C dX4_housesOf_25 ?_
    refine j_istore_n (i := 2) (lv' := [(2, .int (x2 ||| (((x1 >>> (x3 &&& 31)) &&& 1) <<< (v1 &&& 31)))), (0, .ref (ad 12)), (1, .int x1), (3, .int x3)]) C dX4_housesOf_26 rfl (by decide) rfl ?_
    refine j_iinc (v := (x3 + 1)) (lv' := [(3, .int (x3 + 1)), (2, .int (x2 ||| (((x1 >>> (x3 &&& 31)) &&& 1) <<< (v1 &&& 31)))), (0, .ref (ad 12)), (1, .int x1)]) C dX4_housesOf_27 3 rfl (congrArg (fun w => x3 + w) jc_ic_1) (by decide) rfl ?_
    refine j_goto (tgt := 4) C dX4_housesOf_30 rfl ?_
    refine j_sub [2, 3, 1, 0] rfl ?_
    exact hg x1 (x2 ||| (((x1 >>> (x3 &&& 31)) &&& 1) <<< (v1 &&& 31))) (x3 + 1) S hE
theorem q_X4_housesOf_4 {X : jX} {D : va_G} {ad : Nat → Nat} {cy : Nat → ClassId} (C : jC X (jMain D ad cy) RX4 cX4_housesOf (some .int) 4 0 0) {z : Int32 × jS} (Q : jRet X (jMain D ad cy) (some (.int z.1), z.2)) {k33 : Int32 → jS → Option (Int32 × jS)} (hk33 : ∀ (x2 : Int32) (S : jS), k33 x2 S = some z → jJ X (jMain D ad cy) 33 [(2, .int x2)] [] S) (x1 : Int32) (x2 : Int32) (x3 : Int32) (S : jS) (hE : lp_X4_housesOf_4 k33 x1 x2 x3 S = some z) : jJ X (jMain D ad cy) 4 [(0, .ref (ad 12)), (1, .int x1), (2, .int x2), (3, .int x3)] [] S :=
  jloop_P (α := Int32 × Int32 × Int32 × jS) (B := (fun g q => f_X4_housesOf_4 (fun x1 x2 x3 S => g (x1, x2, x3, S)) k33 q.1 q.2.1 q.2.2.1 q.2.2.2)) (P := fun q => jJ X (jMain D ad cy) 4 [(0, .ref (ad 12)), (1, .int q.1), (2, .int q.2.1), (3, .int q.2.2.1)] [] q.2.2.2) (fun g q hg h => p_X4_housesOf_4 C Q (g := fun x1 x2 x3 S => g (x1, x2, x3, S)) (fun x1 x2 x3 S h => hg (x1, x2, x3, S) h) hk33 q.1 q.2.1 q.2.2.1 q.2.2.2 h) jN (x1, x2, x3, S) hE
set_option maxRecDepth 100000 in
theorem p_X4_housesOf_33 {X : jX} {D : va_G} {ad : Nat → Nat} {cy : Nat → ClassId} (C : jC X (jMain D ad cy) RX4 cX4_housesOf (some .int) 4 0 0) {z : Int32 × jS} (Q : jRet X (jMain D ad cy) (some (.int z.1), z.2))  (x2 : Int32) (S : jS) (hE : f_X4_housesOf_33  x2 S = some z) : jJ X (jMain D ad cy) 33 [(2, .int x2)] [] S := by
  unfold f_X4_housesOf_33 at hE
  refine j_iload_n C dX4_housesOf_33 0 rfl ?_
  exact j_iret C Q dX4_housesOf_34 hE
set_option maxRecDepth 100000 in
theorem p_X4_housesOf_e {X : jX} {D : va_G} {ad : Nat → Nat} {cy : Nat → ClassId} (C : jC X (jMain D ad cy) RX4 cX4_housesOf (some .int) 4 0 0) {z : Int32 × jS} (Q : jRet X (jMain D ad cy) (some (.int z.1), z.2))  (x1 : Int32) (S : jS) (hE : f_X4_housesOf_e  x1 S = some z) : jJ X (jMain D ad cy) 0 [(0, .ref (ad 12)), (1, .int x1)] [] S := by
  unfold f_X4_housesOf_e at hE
  refine j_iconst (v := 0) C dX4_housesOf_0 jc_ic_0 ?_
  refine j_istore_n (i := 2) (lv' := [(2, .int 0), (0, .ref (ad 12)), (1, .int x1)]) C dX4_housesOf_1 rfl (by decide) rfl ?_
  refine j_iconst (v := 0) C dX4_housesOf_2 jc_ic_0 ?_
  refine j_istore_n (i := 3) (lv' := [(3, .int 0), (2, .int 0), (0, .ref (ad 12)), (1, .int x1)]) C dX4_housesOf_3 rfl (by decide) rfl ?_
  refine j_sub [2, 3, 1, 0] rfl ?_
  exact q_X4_housesOf_4 C Q (p_X4_housesOf_33 C Q ) x1 0 0 S hE
theorem c_X4_housesOf {l : Launch} {D : va_G} {ad : Nat → Nat} {cy : Nat → ClassId} (hO : jOk (jMain D ad cy)) (x1 : Int32) (S : jS) {z : Int32 × jS} (hz : f_X4_housesOf x1 S = some z) : Met l yX4_housesOf (.code yX4_housesOf cX4_housesOf 4 (some .int) :: jT) { frames := 0, cells := 0, slots := 0, locals := 0 } (va_Pc [.ref (ad 12), .int x1] (jInv (jMain D ad cy) S)) (jQ (jMain D ad cy) (some (.int z.1), z.2)) 0 0 (yA (jMain D ad cy)) :=
  jMet hO (by decide +kernel) rfl (Nat.le_of_ble_eq_true rfl) (fun X _ C Q => p_X4_housesOf_e C Q x1 S hz)
theorem k_X4_86_X4_housesOf {X : jX} {D : va_G} {ad : Nat → Nat} {cy : Nat → ClassId} {cc : ByteArray} {ret : Option FieldType} {nL fr lo pc : Nat} {lv : List (Nat × Value)} {st : List Value} {S : jS} {β : Type} {z : β} (C : jC X (jMain D ad cy) RX4 cc ret nL fr lo) {a0 : Int32} {E : Int32 → jS → Option β} (d : decode cc pc = .ok (.invokevirtual 86, 3)) (hE : jcl (f_X4_housesOf a0 S) E = some z) (hfr : 1 ≤ fr) (hlo : 23 ≤ lo) (hst : (st.map fun v => v.category).sum ≤ 8) (K : ∀ (v : Int32) (S1 : jS), E v S1 = some z → jJ X (jMain D ad cy) (pc + 3) lv (.int v :: st) S1) : jJ X (jMain D ad cy) pc lv (.int a0 :: .ref (ad 12) :: st) S := by
  obtain ⟨v, h1, h2⟩ := jcl_some hE
  exact j_callV (k := 12) (ci := 4) (T := TX4) (N := 7) (n := 1) (As := [.int a0]) C (c_X4_housesOf C.2.2.2.2.2.2.1 a0 S h1) tw_700 tw_702 tw_22 tw_79 tw_703 (by decide +kernel) rfl (by decide : 12 < 56) rfl rfl hfr hlo hst rfl d (K _ _ h2)
set_option maxRecDepth 100000 in
theorem p_X4_greatestSet_r22_40 {X : jX} {D : va_G} {ad : Nat → Nat} {cy : Nat → ClassId} (C : jC X (jMain D ad cy) RX4 cX4_greatestSet (some .int) 4 7 160) {z : Int32 × jS} (Q : jRet X (jMain D ad cy) (some (.int z.1), z.2)) {g : Int32 → Int32 → jS → Option (Int32 × jS)} (hg : ∀ (x2 : Int32) (x3 : Int32) (S : jS), g x2 x3 S = some z → jJ X (jMain D ad cy) 9 [(0, .ref (ad 12)), (2, .int x2), (3, .int x3)] [] S) {k46 : Int32 → jS → Option (Int32 × jS)} (hk46 : ∀ (x2 : Int32) (S : jS), k46 x2 S = some z → jJ X (jMain D ad cy) 46 [(0, .ref (ad 12)), (2, .int x2)] [] S) (x2 : Int32) (x3 : Int32) (S : jS) (hE : f_X4_greatestSet_r22_40 g k46 x2 x3 S = some z) : jJ X (jMain D ad cy) 40 [(0, .ref (ad 12)), (2, .int x2), (3, .int x3)] [] S := by
  unfold f_X4_greatestSet_r22_40 at hE
  refine j_iinc (v := (x3 + 1)) (lv' := [(3, .int (x3 + 1)), (0, .ref (ad 12)), (2, .int x2)]) C dX4_greatestSet_40 2 rfl (congrArg (fun w => x3 + w) jc_ic_1) (by decide) rfl ?_
  refine j_goto (tgt := 9) C dX4_greatestSet_43 rfl ?_
  refine j_sub [1, 2, 0] rfl ?_
  exact hg x2 (x3 + 1) S hE
set_option maxRecDepth 100000 in
theorem p_X4_greatestSet_r22_9 {X : jX} {D : va_G} {ad : Nat → Nat} {cy : Nat → ClassId} (C : jC X (jMain D ad cy) RX4 cX4_greatestSet (some .int) 4 7 160) {z : Int32 × jS} (Q : jRet X (jMain D ad cy) (some (.int z.1), z.2)) {g : Int32 → Int32 → jS → Option (Int32 × jS)} (hg : ∀ (x2 : Int32) (x3 : Int32) (S : jS), g x2 x3 S = some z → jJ X (jMain D ad cy) 9 [(0, .ref (ad 12)), (2, .int x2), (3, .int x3)] [] S) {k46 : Int32 → jS → Option (Int32 × jS)} (hk46 : ∀ (x2 : Int32) (S : jS), k46 x2 S = some z → jJ X (jMain D ad cy) 46 [(0, .ref (ad 12)), (2, .int x2)] [] S) (x2 : Int32) (x3 : Int32) (S : jS) (hE : f_X4_greatestSet_r22_9 g k46 x2 x3 S = some z) : jJ X (jMain D ad cy) 9 [(0, .ref (ad 12)), (2, .int x2), (3, .int x3)] [] S := by
  unfold f_X4_greatestSet_r22_9 at hE
  refine j_iload_n C dX4_greatestSet_9 2 rfl ?_
  refine j_iconst (v := 1) C dX4_greatestSet_10 jc_ic_1 ?_
  refine j_aload_n C dX4_greatestSet_11 0 rfl ?_
  refine g_X4_41_12 C dX4_greatestSet_12 ?_
  refine j_ishl C dX4_greatestSet_15 ?_
  refine j_icmp_ge (tgt := 46) C dX4_greatestSet_16 rfl hE (fun hE => ?_) (fun hE => ?_)
  · refine j_sub [0, 1] rfl ?_
    exact hk46 x2 S hE
  · refine j_iload_n C dX4_greatestSet_19 2 rfl ?_
    refine k_X4_31_J6_bitCount_0f7a4 C dX4_greatestSet_20 hE (Nat.le_of_ble_eq_true rfl) (Nat.le_of_ble_eq_true rfl) (Nat.le_of_ble_eq_true rfl) (fun v2 S1 hE => ?_)
    refine j_iload_n C dX4_greatestSet_23 1 rfl ?_
    refine k_X4_31_J6_bitCount_0f7a4 C dX4_greatestSet_24 hE (Nat.le_of_ble_eq_true rfl) (Nat.le_of_ble_eq_true rfl) (Nat.le_of_ble_eq_true rfl) (fun v4 S3 hE => ?_)
    refine j_icmp_le (tgt := 40) C dX4_greatestSet_27 rfl hE (fun hE => ?_) (fun hE => ?_)
    · exact p_X4_greatestSet_r22_40 C Q hg hk46 x2 x3 S3 hE
    · refine j_aload_n C dX4_greatestSet_30 0 rfl ?_
      refine j_iload_n C dX4_greatestSet_31 2 rfl ?_
      refine k_X4_82_X4_isApart C dX4_greatestSet_32 hE (Nat.le_of_ble_eq_true rfl) (Nat.le_of_ble_eq_true rfl) (Nat.le_of_ble_eq_true rfl) (fun v6 S5 hE => ?_)
      refine j_if_eq (tgt := 40) C dX4_greatestSet_35 rfl hE (fun hE => ?_) (fun hE => ?_)
      · exact p_X4_greatestSet_r22_40 C Q hg hk46 x2 x3 S5 hE
      · refine j_iload_n C dX4_greatestSet_38 2 rfl ?_
        refine j_istore_n (i := 2) (lv' := [(2, .int x3), (0, .ref (ad 12)), (3, .int x3)]) C dX4_greatestSet_39 rfl (by decide) rfl ?_
        refine j_sub [1, 0, 2] rfl ?_
        exact p_X4_greatestSet_r22_40 C Q hg hk46 x3 x3 S5 hE
theorem q_X4_greatestSet_r22_9 {X : jX} {D : va_G} {ad : Nat → Nat} {cy : Nat → ClassId} (C : jC X (jMain D ad cy) RX4 cX4_greatestSet (some .int) 4 7 160) {z : Int32 × jS} (Q : jRet X (jMain D ad cy) (some (.int z.1), z.2)) {k46 : Int32 → jS → Option (Int32 × jS)} (hk46 : ∀ (x2 : Int32) (S : jS), k46 x2 S = some z → jJ X (jMain D ad cy) 46 [(0, .ref (ad 12)), (2, .int x2)] [] S) (x2 : Int32) (x3 : Int32) (S : jS) (hE : lp_X4_greatestSet_r22_9 k46 x2 x3 S = some z) : jJ X (jMain D ad cy) 9 [(0, .ref (ad 12)), (2, .int x2), (3, .int x3)] [] S :=
  jloop_P (α := Int32 × Int32 × jS) (B := (fun g q => f_X4_greatestSet_r22_9 (fun x2 x3 S => g (x2, x3, S)) k46 q.1 q.2.1 q.2.2)) (P := fun q => jJ X (jMain D ad cy) 9 [(0, .ref (ad 12)), (2, .int q.1), (3, .int q.2.1)] [] q.2.2) (fun g q hg h => p_X4_greatestSet_r22_9 C Q (g := fun x2 x3 S => g (x2, x3, S)) (fun x2 x3 S h => hg (x2, x3, S) h) hk46 q.1 q.2.1 q.2.2 h) jN (x2, x3, S) hE
set_option maxRecDepth 100000 in
theorem p_X4_greatestSet_r22_46 {X : jX} {D : va_G} {ad : Nat → Nat} {cy : Nat → ClassId} (C : jC X (jMain D ad cy) RX4 cX4_greatestSet (some .int) 4 7 160) {z : Int32 × jS} (Q : jRet X (jMain D ad cy) (some (.int z.1), z.2))  (x2 : Int32) (S : jS) (hE : f_X4_greatestSet_r22_46  x2 S = some z) : jJ X (jMain D ad cy) 46 [(0, .ref (ad 12)), (2, .int x2)] [] S := by
  unfold f_X4_greatestSet_r22_46 at hE
  refine j_aload_n C dX4_greatestSet_46 0 rfl ?_
  refine j_iload_n C dX4_greatestSet_47 1 rfl ?_
  refine k_X4_86_X4_housesOf C dX4_greatestSet_48 hE (Nat.le_of_ble_eq_true rfl) (Nat.le_of_ble_eq_true rfl) (Nat.le_of_ble_eq_true rfl) (fun v2 S1 hE => ?_)
  exact j_iret C Q dX4_greatestSet_51 hE
set_option maxRecDepth 100000 in
theorem p_X4_greatestSet_r22_e {X : jX} {D : va_G} {ad : Nat → Nat} {cy : Nat → ClassId} (C : jC X (jMain D ad cy) RX4 cX4_greatestSet (some .int) 4 7 160) {z : Int32 × jS} (Q : jRet X (jMain D ad cy) (some (.int z.1), z.2))   (S : jS) (hE : f_X4_greatestSet_r22_e   S = some z) : jJ X (jMain D ad cy) 0 [(0, .ref (ad 12)), (1, .ref (ad 22))] [] S := by
  unfold f_X4_greatestSet_r22_e at hE
  refine j_aload_n C dX4_greatestSet_0 0 rfl ?_
  refine j_aload_n C dX4_greatestSet_1 1 rfl ?_
  refine k_X4_73_X4_settleApart_r22 C dX4_greatestSet_2 hE (Nat.le_of_ble_eq_true rfl) (Nat.le_of_ble_eq_true rfl) (Nat.le_of_ble_eq_true rfl) (fun S1 hE => ?_)
  refine j_iconst (v := 0) C dX4_greatestSet_5 jc_ic_0 ?_
  refine j_istore_n (i := 2) (lv' := [(2, .int 0), (0, .ref (ad 12)), (1, .ref (ad 22))]) C dX4_greatestSet_6 rfl (by decide) rfl ?_
  refine j_iconst (v := 1) C dX4_greatestSet_7 jc_ic_1 ?_
  refine j_istore_n (i := 3) (lv' := [(3, .int 1), (2, .int 0), (0, .ref (ad 12)), (1, .ref (ad 22))]) C dX4_greatestSet_8 rfl (by decide) rfl ?_
  refine j_sub [2, 1, 0] rfl ?_
  exact q_X4_greatestSet_r22_9 C Q (p_X4_greatestSet_r22_46 C Q ) 0 1 S1 hE
theorem c_X4_greatestSet_r22 {l : Launch} {D : va_G} {ad : Nat → Nat} {cy : Nat → ClassId} (hO : jOk (jMain D ad cy))  (S : jS) {z : Int32 × jS} (hz : f_X4_greatestSet_r22  S = some z) : Met l yX4_greatestSet (.code yX4_greatestSet cX4_greatestSet 4 (some .int) :: jT) { frames := 7, cells := 0, slots := 0, locals := 160 } (va_Pc [.ref (ad 12), .ref (ad 22)] (jInv (jMain D ad cy) S)) (jQ (jMain D ad cy) (some (.int z.1), z.2)) 0 0 (yA (jMain D ad cy)) :=
  jMet hO (by decide +kernel) rfl (Nat.le_of_ble_eq_true rfl) (fun X _ C Q => p_X4_greatestSet_r22_e C Q  S hz)
theorem k_X11_191_X4_greatestSet_r22 {X : jX} {D : va_G} {ad : Nat → Nat} {cy : Nat → ClassId} {cc : ByteArray} {ret : Option FieldType} {nL fr lo pc : Nat} {lv : List (Nat × Value)} {st : List Value} {S : jS} {β : Type} {z : β} (C : jC X (jMain D ad cy) RX11 cc ret nL fr lo)  {E : Int32 → jS → Option β} (d : decode cc pc = .ok (.invokevirtual 191, 3)) (hE : jcl (f_X4_greatestSet_r22  S) E = some z) (hfr : 8 ≤ fr) (hlo : 183 ≤ lo) (hst : (st.map fun v => v.category).sum ≤ 8) (K : ∀ (v : Int32) (S1 : jS), E v S1 = some z → jJ X (jMain D ad cy) (pc + 3) lv (.int v :: st) S1) : jJ X (jMain D ad cy) pc lv (.ref (ad 22) :: .ref (ad 12) :: st) S := by
  obtain ⟨v, h1, h2⟩ := jcl_some hE
  exact j_callV (k := 12) (ci := 4) (T := TX4) (N := 7) (n := 1) (As := [.ref (ad 22)]) C (c_X4_greatestSet_r22 C.2.2.2.2.2.2.1  S h1) tw_692 tw_693 tw_694 tw_79 tw_695 (by decide +kernel) rfl (by decide : 12 < 56) rfl rfl hfr hlo hst rfl d (K _ _ h2)
set_option maxRecDepth 100000 in
theorem p_X11_greatest_39 {X : jX} {D : va_G} {ad : Nat → Nat} {cy : Nat → ClassId} (C : jC X (jMain D ad cy) RX11 cX11_greatest (some .int) 3 8 183) {z : Int32 × jS} (Q : jRet X (jMain D ad cy) (some (.int z.1), z.2))  (a0 : Int32) (S : jS) (hE : f_X11_greatest_39  a0 S = some z) : jJ X (jMain D ad cy) 39 [] [.int a0] S := by
  unfold f_X11_greatest_39 at hE
  exact j_iret C Q dX11_greatest_39 hE
set_option maxRecDepth 100000 in
theorem p_X11_greatest_e {X : jX} {D : va_G} {ad : Nat → Nat} {cy : Nat → ClassId} (C : jC X (jMain D ad cy) RX11 cX11_greatest (some .int) 3 8 183) {z : Int32 × jS} (Q : jRet X (jMain D ad cy) (some (.int z.1), z.2))  (x1 : Int32) (S : jS) (hE : f_X11_greatest_e  x1 S = some z) : jJ X (jMain D ad cy) 0 [(0, .ref (ad 0)), (1, .int x1)] [] S := by
  unfold f_X11_greatest_e at hE
  refine j_iload_n C dX11_greatest_0 1 rfl ?_
  refine k_X11_160_X11_isBit C dX11_greatest_1 hE (Nat.le_of_ble_eq_true rfl) (Nat.le_of_ble_eq_true rfl) (Nat.le_of_ble_eq_true rfl) (fun v2 S1 hE => ?_)
  refine j_if_ne (tgt := 12) C dX11_greatest_4 rfl hE (fun hE => ?_) (fun hE => ?_)
  · refine j_aload_n C dX11_greatest_12 0 rfl ?_
    refine g_X11_30_0 C dX11_greatest_13 ?_
    refine j_aload_n C dX11_greatest_16 0 rfl ?_
    refine g_X11_44_0 C dX11_greatest_17 ?_
    refine g_X11_96_21 C dX11_greatest_20 ?_
    refine k_X11_191_X4_greatestSet_r22 C dX11_greatest_23 hE (Nat.le_of_ble_eq_true rfl) (Nat.le_of_ble_eq_true rfl) (Nat.le_of_ble_eq_true rfl) (fun v4 S3 hE => ?_)
    refine j_istore_n (i := 2) (lv' := [(2, .int v4), (0, .ref (ad 0)), (1, .int x1)]) C dX11_greatest_26 rfl (by decide) rfl ?_
    refine j_iload_n C dX11_greatest_27 2 rfl ?_
    refine j_if_ne (tgt := 38) C dX11_greatest_28 rfl hE (fun hE => ?_) (fun hE => ?_)
    · refine j_iload_n C dX11_greatest_38 0 rfl ?_
      refine j_sub [] rfl ?_
      exact p_X11_greatest_39 C Q  v4 S3 hE
    · refine j_iload_n C dX11_greatest_31 0 rfl ?_
      refine k_X11_163_J6_bitCount_0f7a4 C dX11_greatest_32 hE (Nat.le_of_ble_eq_true rfl) (Nat.le_of_ble_eq_true rfl) (Nat.le_of_ble_eq_true rfl) (fun v6 S5 hE => ?_)
      refine j_goto (tgt := 39) C dX11_greatest_35 rfl ?_
      refine j_sub [] rfl ?_
      exact p_X11_greatest_39 C Q  v6 S5 hE
  · refine j_aload_n C dX11_greatest_7 0 rfl ?_
    refine k_X11_74_X11_refuseBad C dX11_greatest_8 hE (Nat.le_of_ble_eq_true rfl) (Nat.le_of_ble_eq_true rfl) (Nat.le_of_ble_eq_true rfl) (fun v8 S7 hE => ?_)
    exact j_iret C Q dX11_greatest_11 hE
theorem c_X11_greatest {l : Launch} {D : va_G} {ad : Nat → Nat} {cy : Nat → ClassId} (hO : jOk (jMain D ad cy)) (x1 : Int32) (S : jS) {z : Int32 × jS} (hz : f_X11_greatest x1 S = some z) : Met l yX11_greatest (.code yX11_greatest cX11_greatest 3 (some .int) :: jT) { frames := 8, cells := 0, slots := 0, locals := 183 } (va_Pc [.ref (ad 0), .int x1] (jInv (jMain D ad cy) S)) (jQ (jMain D ad cy) (some (.int z.1), z.2)) 0 0 (yA (jMain D ad cy)) :=
  jMet hO (by decide +kernel) rfl (Nat.le_of_ble_eq_true rfl) (fun X _ C Q => p_X11_greatest_e C Q x1 S hz)
set_option maxRecDepth 100000 in
theorem p_X12_partsOf_21 {X : jX} {D : va_G} {ad : Nat → Nat} {cy : Nat → ClassId} (C : jC X (jMain D ad cy) RX12 cX12_partsOf (some .int) 3 0 0) {z : Int32 × jS} (Q : jRet X (jMain D ad cy) (some (.int z.1), z.2)) {g : Int32 → Int32 → Int32 → jS → Option (Int32 × jS)} (hg : ∀ (x0 : Int32) (x1 : Int32) (x2 : Int32) (S : jS), g x0 x1 x2 S = some z → jJ X (jMain D ad cy) 4 [(0, .int x0), (1, .int x1), (2, .int x2)] [] S) {k29 : Int32 → jS → Option (Int32 × jS)} (hk29 : ∀ (x1 : Int32) (S : jS), k29 x1 S = some z → jJ X (jMain D ad cy) 29 [(1, .int x1)] [] S) (a0 : Int32) (a1 : Int32) (x0 : Int32) (x2 : Int32) (S : jS) (hE : f_X12_partsOf_21 g k29 a0 a1 x0 x2 S = some z) : jJ X (jMain D ad cy) 21 [(0, .int x0), (2, .int x2)] [.int a0, .int a1] S := by
  unfold f_X12_partsOf_21 at hE
  refine j_iadd C dX12_partsOf_21 ?_
  refine j_istore_n (i := 1) (lv' := [(1, .int (a1 + a0)), (0, .int x0), (2, .int x2)]) C dX12_partsOf_22 rfl (by decide) rfl ?_
  refine j_iinc (v := (x2 + 1)) (lv' := [(2, .int (x2 + 1)), (1, .int (a1 + a0)), (0, .int x0)]) C dX12_partsOf_23 2 rfl (congrArg (fun w => x2 + w) jc_ic_1) (by decide) rfl ?_
  refine j_goto (tgt := 4) C dX12_partsOf_26 rfl ?_
  refine j_sub [2, 1, 0] rfl ?_
  exact hg x0 (a1 + a0) (x2 + 1) S hE
set_option maxRecDepth 100000 in
theorem p_X12_partsOf_4 {X : jX} {D : va_G} {ad : Nat → Nat} {cy : Nat → ClassId} (C : jC X (jMain D ad cy) RX12 cX12_partsOf (some .int) 3 0 0) {z : Int32 × jS} (Q : jRet X (jMain D ad cy) (some (.int z.1), z.2)) {g : Int32 → Int32 → Int32 → jS → Option (Int32 × jS)} (hg : ∀ (x0 : Int32) (x1 : Int32) (x2 : Int32) (S : jS), g x0 x1 x2 S = some z → jJ X (jMain D ad cy) 4 [(0, .int x0), (1, .int x1), (2, .int x2)] [] S) {k29 : Int32 → jS → Option (Int32 × jS)} (hk29 : ∀ (x1 : Int32) (S : jS), k29 x1 S = some z → jJ X (jMain D ad cy) 29 [(1, .int x1)] [] S) (x0 : Int32) (x1 : Int32) (x2 : Int32) (S : jS) (hE : f_X12_partsOf_4 g k29 x0 x1 x2 S = some z) : jJ X (jMain D ad cy) 4 [(0, .int x0), (1, .int x1), (2, .int x2)] [] S := by
  unfold f_X12_partsOf_4 at hE
  refine j_iload_n C dX12_partsOf_4 2 rfl ?_
  refine j_iload_n C dX12_partsOf_5 0 rfl ?_
  refine j_icmp_ge (tgt := 29) C dX12_partsOf_6 rfl hE (fun hE => ?_) (fun hE => ?_)
  · refine j_sub [1] rfl ?_
    exact hk29 x1 S hE
  · refine j_iload_n C dX12_partsOf_9 1 rfl ?_
    refine j_iload_n C dX12_partsOf_10 0 rfl ?_
    refine j_iload_n C dX12_partsOf_11 2 rfl ?_
    refine j_irem C dX12_partsOf_12 hE (fun v1 hE => ?_)
    refine j_if_ne (tgt := 20) C dX12_partsOf_13 rfl hE (fun hE => ?_) (fun hE => ?_)
    · refine j_iconst (v := 0) C dX12_partsOf_20 jc_ic_0 ?_
      refine j_sub [0, 2] rfl ?_
      exact p_X12_partsOf_21 C Q hg hk29 0 x1 x0 x2 S hE
    · refine j_iload_n C dX12_partsOf_16 2 rfl ?_
      refine j_goto (tgt := 21) C dX12_partsOf_17 rfl ?_
      refine j_sub [0, 2] rfl ?_
      exact p_X12_partsOf_21 C Q hg hk29 x2 x1 x0 x2 S hE
theorem q_X12_partsOf_4 {X : jX} {D : va_G} {ad : Nat → Nat} {cy : Nat → ClassId} (C : jC X (jMain D ad cy) RX12 cX12_partsOf (some .int) 3 0 0) {z : Int32 × jS} (Q : jRet X (jMain D ad cy) (some (.int z.1), z.2)) {k29 : Int32 → jS → Option (Int32 × jS)} (hk29 : ∀ (x1 : Int32) (S : jS), k29 x1 S = some z → jJ X (jMain D ad cy) 29 [(1, .int x1)] [] S) (x0 : Int32) (x1 : Int32) (x2 : Int32) (S : jS) (hE : lp_X12_partsOf_4 k29 x0 x1 x2 S = some z) : jJ X (jMain D ad cy) 4 [(0, .int x0), (1, .int x1), (2, .int x2)] [] S :=
  jloop_P (α := Int32 × Int32 × Int32 × jS) (B := (fun g q => f_X12_partsOf_4 (fun x0 x1 x2 S => g (x0, x1, x2, S)) k29 q.1 q.2.1 q.2.2.1 q.2.2.2)) (P := fun q => jJ X (jMain D ad cy) 4 [(0, .int q.1), (1, .int q.2.1), (2, .int q.2.2.1)] [] q.2.2.2) (fun g q hg h => p_X12_partsOf_4 C Q (g := fun x0 x1 x2 S => g (x0, x1, x2, S)) (fun x0 x1 x2 S h => hg (x0, x1, x2, S) h) hk29 q.1 q.2.1 q.2.2.1 q.2.2.2 h) jN (x0, x1, x2, S) hE
set_option maxRecDepth 100000 in
theorem p_X12_partsOf_29 {X : jX} {D : va_G} {ad : Nat → Nat} {cy : Nat → ClassId} (C : jC X (jMain D ad cy) RX12 cX12_partsOf (some .int) 3 0 0) {z : Int32 × jS} (Q : jRet X (jMain D ad cy) (some (.int z.1), z.2))  (x1 : Int32) (S : jS) (hE : f_X12_partsOf_29  x1 S = some z) : jJ X (jMain D ad cy) 29 [(1, .int x1)] [] S := by
  unfold f_X12_partsOf_29 at hE
  refine j_iload_n C dX12_partsOf_29 0 rfl ?_
  exact j_iret C Q dX12_partsOf_30 hE
set_option maxRecDepth 100000 in
theorem p_X12_partsOf_e {X : jX} {D : va_G} {ad : Nat → Nat} {cy : Nat → ClassId} (C : jC X (jMain D ad cy) RX12 cX12_partsOf (some .int) 3 0 0) {z : Int32 × jS} (Q : jRet X (jMain D ad cy) (some (.int z.1), z.2))  (x0 : Int32) (S : jS) (hE : f_X12_partsOf_e  x0 S = some z) : jJ X (jMain D ad cy) 0 [(0, .int x0)] [] S := by
  unfold f_X12_partsOf_e at hE
  refine j_iconst (v := 0) C dX12_partsOf_0 jc_ic_0 ?_
  refine j_istore_n (i := 1) (lv' := [(1, .int 0), (0, .int x0)]) C dX12_partsOf_1 rfl (by decide) rfl ?_
  refine j_iconst (v := 1) C dX12_partsOf_2 jc_ic_1 ?_
  refine j_istore_n (i := 2) (lv' := [(2, .int 1), (1, .int 0), (0, .int x0)]) C dX12_partsOf_3 rfl (by decide) rfl ?_
  refine j_sub [2, 1, 0] rfl ?_
  exact q_X12_partsOf_4 C Q (p_X12_partsOf_29 C Q ) x0 0 1 S hE
theorem c_X12_partsOf {l : Launch} {D : va_G} {ad : Nat → Nat} {cy : Nat → ClassId} (hO : jOk (jMain D ad cy)) (x0 : Int32) (S : jS) {z : Int32 × jS} (hz : f_X12_partsOf x0 S = some z) : Met l yX12_partsOf (.code yX12_partsOf cX12_partsOf 3 (some .int) :: jT) { frames := 0, cells := 0, slots := 0, locals := 0 } (va_Pc [.int x0] (jInv (jMain D ad cy) S)) (jQ (jMain D ad cy) (some (.int z.1), z.2)) 0 0 (yA (jMain D ad cy)) :=
  jMet hO (by decide +kernel) rfl (Nat.le_of_ble_eq_true rfl) (fun X _ C Q => p_X12_partsOf_e C Q x0 S hz)
theorem k_X12_177_X12_partsOf {X : jX} {D : va_G} {ad : Nat → Nat} {cy : Nat → ClassId} {cc : ByteArray} {ret : Option FieldType} {nL fr lo pc : Nat} {lv : List (Nat × Value)} {st : List Value} {S : jS} {β : Type} {z : β} (C : jC X (jMain D ad cy) RX12 cc ret nL fr lo) {a0 : Int32} {E : Int32 → jS → Option β} (d : decode cc pc = .ok (.invokestatic 177, 3)) (hE : jcl (f_X12_partsOf a0 S) E = some z) (hfr : 1 ≤ fr) (hlo : 22 ≤ lo) (hst : (st.map fun v => v.category).sum ≤ 8) (K : ∀ (v : Int32) (S1 : jS), E v S1 = some z → jJ X (jMain D ad cy) (pc + 3) lv (.int v :: st) S1) : jJ X (jMain D ad cy) pc lv (.int a0 :: st) S := by
  obtain ⟨v, h1, h2⟩ := jcl_some hE
  exact j_callS (n := 1) (As := [.int a0]) C (c_X12_partsOf C.2.2.2.2.2.2.1 a0 S h1) tw_1131 tw_1132 tw_82 tw_1133 (by decide +kernel) rfl hfr hlo hst rfl d (K _ _ h2)
set_option maxRecDepth 100000 in
theorem p_X12_chain_19 {X : jX} {D : va_G} {ad : Nat → Nat} {cy : Nat → ClassId} (C : jC X (jMain D ad cy) RX12 cX12_chain (some .int) 7 2 45) {z : Int32 × jS} (Q : jRet X (jMain D ad cy) (some (.int z.1), z.2))   (S : jS) (hE : f_X12_chain_19   S = some z) : jJ X (jMain D ad cy) 19 [(0, .ref (ad 41))] [] S := by
  unfold f_X12_chain_19 at hE
  refine j_aload_n C dX12_chain_19 0 rfl ?_
  refine j_bipush (v := (-2)) C dX12_chain_20 jc_bp_m2 ?_
  refine k_X12_87_X12_bad C dX12_chain_22 hE (Nat.le_of_ble_eq_true rfl) (Nat.le_of_ble_eq_true rfl) (Nat.le_of_ble_eq_true rfl) (fun v2 S1 hE => ?_)
  exact j_iret C Q dX12_chain_25 hE
set_option maxRecDepth 100000 in
theorem p_X12_chain_122 {X : jX} {D : va_G} {ad : Nat → Nat} {cy : Nat → ClassId} (C : jC X (jMain D ad cy) RX12 cX12_chain (some .int) 7 2 45) {z : Int32 × jS} (Q : jRet X (jMain D ad cy) (some (.int z.1), z.2)) {g : Int32 → Int32 → Int32 → Int32 → Int32 → Int32 → jS → Option (Int32 × jS)} (hg : ∀ (x1 : Int32) (x2 : Int32) (x3 : Int32) (x4 : Int32) (x5 : Int32) (x6 : Int32) (S : jS), g x1 x2 x3 x4 x5 x6 S = some z → jJ X (jMain D ad cy) 94 [(0, .ref (ad 41)), (1, .int x1), (2, .int x2), (3, .int x3), (4, .int x4), (5, .int x5), (6, .int x6)] [] S) {k130 : Int32 → Int32 → Int32 → Int32 → jS → Option (Int32 × jS)} (hk130 : ∀ (x1 : Int32) (x2 : Int32) (x3 : Int32) (x4 : Int32) (S : jS), k130 x1 x2 x3 x4 S = some z → jJ X (jMain D ad cy) 130 [(0, .ref (ad 41)), (1, .int x1), (2, .int x2), (3, .int x3), (4, .int x4)] [] S) (a0 : Int32) (x1 : Int32) (x2 : Int32) (x3 : Int32) (x5 : Int32) (x6 : Int32) (S : jS) (hE : f_X12_chain_122 g k130 a0 x1 x2 x3 x5 x6 S = some z) : jJ X (jMain D ad cy) 122 [(0, .ref (ad 41)), (1, .int x1), (2, .int x2), (3, .int x3), (5, .int x5), (6, .int x6)] [.int a0] S := by
  unfold f_X12_chain_122 at hE
  refine j_istore (lv' := [(4, .int a0), (0, .ref (ad 41)), (1, .int x1), (2, .int x2), (3, .int x3), (5, .int x5), (6, .int x6)]) C dX12_chain_122 (by decide) rfl ?_
  refine j_iinc (v := (x6 + 1)) (lv' := [(6, .int (x6 + 1)), (4, .int a0), (0, .ref (ad 41)), (1, .int x1), (2, .int x2), (3, .int x3), (5, .int x5)]) C dX12_chain_124 6 rfl (congrArg (fun w => x6 + w) jc_ic_1) (by decide) rfl ?_
  refine j_goto (tgt := 94) C dX12_chain_127 rfl ?_
  refine j_sub [2, 3, 4, 5, 1, 6, 0] rfl ?_
  exact hg x1 x2 x3 a0 x5 (x6 + 1) S hE
set_option maxRecDepth 100000 in
theorem p_X12_chain_117 {X : jX} {D : va_G} {ad : Nat → Nat} {cy : Nat → ClassId} (C : jC X (jMain D ad cy) RX12 cX12_chain (some .int) 7 2 45) {z : Int32 × jS} (Q : jRet X (jMain D ad cy) (some (.int z.1), z.2)) {g : Int32 → Int32 → Int32 → Int32 → Int32 → Int32 → jS → Option (Int32 × jS)} (hg : ∀ (x1 : Int32) (x2 : Int32) (x3 : Int32) (x4 : Int32) (x5 : Int32) (x6 : Int32) (S : jS), g x1 x2 x3 x4 x5 x6 S = some z → jJ X (jMain D ad cy) 94 [(0, .ref (ad 41)), (1, .int x1), (2, .int x2), (3, .int x3), (4, .int x4), (5, .int x5), (6, .int x6)] [] S) {k130 : Int32 → Int32 → Int32 → Int32 → jS → Option (Int32 × jS)} (hk130 : ∀ (x1 : Int32) (x2 : Int32) (x3 : Int32) (x4 : Int32) (S : jS), k130 x1 x2 x3 x4 S = some z → jJ X (jMain D ad cy) 130 [(0, .ref (ad 41)), (1, .int x1), (2, .int x2), (3, .int x3), (4, .int x4)] [] S) (x1 : Int32) (x2 : Int32) (x3 : Int32) (x5 : Int32) (x6 : Int32) (S : jS) (hE : f_X12_chain_117 g k130 x1 x2 x3 x5 x6 S = some z) : jJ X (jMain D ad cy) 117 [(0, .ref (ad 41)), (1, .int x1), (2, .int x2), (3, .int x3), (5, .int x5), (6, .int x6)] [] S := by
  unfold f_X12_chain_117 at hE
  refine j_iconst (v := 1) C dX12_chain_117 jc_ic_1 ?_
  refine j_goto (tgt := 122) C dX12_chain_118 rfl ?_
  exact p_X12_chain_122 C Q hg hk130 1 x1 x2 x3 x5 x6 S hE
set_option maxRecDepth 100000 in
theorem p_X12_chain_94 {X : jX} {D : va_G} {ad : Nat → Nat} {cy : Nat → ClassId} (C : jC X (jMain D ad cy) RX12 cX12_chain (some .int) 7 2 45) {z : Int32 × jS} (Q : jRet X (jMain D ad cy) (some (.int z.1), z.2)) {g : Int32 → Int32 → Int32 → Int32 → Int32 → Int32 → jS → Option (Int32 × jS)} (hg : ∀ (x1 : Int32) (x2 : Int32) (x3 : Int32) (x4 : Int32) (x5 : Int32) (x6 : Int32) (S : jS), g x1 x2 x3 x4 x5 x6 S = some z → jJ X (jMain D ad cy) 94 [(0, .ref (ad 41)), (1, .int x1), (2, .int x2), (3, .int x3), (4, .int x4), (5, .int x5), (6, .int x6)] [] S) {k130 : Int32 → Int32 → Int32 → Int32 → jS → Option (Int32 × jS)} (hk130 : ∀ (x1 : Int32) (x2 : Int32) (x3 : Int32) (x4 : Int32) (S : jS), k130 x1 x2 x3 x4 S = some z → jJ X (jMain D ad cy) 130 [(0, .ref (ad 41)), (1, .int x1), (2, .int x2), (3, .int x3), (4, .int x4)] [] S) (x1 : Int32) (x2 : Int32) (x3 : Int32) (x4 : Int32) (x5 : Int32) (x6 : Int32) (S : jS) (hE : f_X12_chain_94 g k130 x1 x2 x3 x4 x5 x6 S = some z) : jJ X (jMain D ad cy) 94 [(0, .ref (ad 41)), (1, .int x1), (2, .int x2), (3, .int x3), (4, .int x4), (5, .int x5), (6, .int x6)] [] S := by
  unfold f_X12_chain_94 at hE
  refine j_iload C dX12_chain_94 6 rfl ?_
  refine j_iload_n C dX12_chain_96 3 rfl ?_
  refine j_icmp_ge (tgt := 130) C dX12_chain_97 rfl hE (fun hE => ?_) (fun hE => ?_)
  · refine j_sub [0, 1, 2, 3, 4] rfl ?_
    exact hk130 x1 x2 x3 x4 S hE
  · refine j_iload C dX12_chain_100 4 rfl ?_
    refine j_if_ne (tgt := 117) C dX12_chain_102 rfl hE (fun hE => ?_) (fun hE => ?_)
    · refine j_sub [0, 1, 2, 3, 5, 6] rfl ?_
      exact p_X12_chain_117 C Q hg hk130 x1 x2 x3 x5 x6 S hE
    · refine j_aload_n C dX12_chain_105 0 rfl ?_
      refine g_X12_42_41 C dX12_chain_106 ?_
      refine j_iload C dX12_chain_109 6 rfl ?_
      refine l_51 C dX12_chain_111 hE (fun v1 hE => ?_)
      refine j_iload C dX12_chain_112 5 rfl ?_
      refine j_icmp_ne (tgt := 121) C dX12_chain_114 rfl hE (fun hE => ?_) (fun hE => ?_)
      · refine j_iconst (v := 0) C dX12_chain_121 jc_ic_0 ?_
        refine j_sub [0, 1, 2, 3, 5, 6] rfl ?_
        exact p_X12_chain_122 C Q hg hk130 0 x1 x2 x3 x5 x6 S hE
      · refine j_sub [0, 1, 2, 3, 5, 6] rfl ?_
        exact p_X12_chain_117 C Q hg hk130 x1 x2 x3 x5 x6 S hE
theorem q_X12_chain_94 {X : jX} {D : va_G} {ad : Nat → Nat} {cy : Nat → ClassId} (C : jC X (jMain D ad cy) RX12 cX12_chain (some .int) 7 2 45) {z : Int32 × jS} (Q : jRet X (jMain D ad cy) (some (.int z.1), z.2)) {k130 : Int32 → Int32 → Int32 → Int32 → jS → Option (Int32 × jS)} (hk130 : ∀ (x1 : Int32) (x2 : Int32) (x3 : Int32) (x4 : Int32) (S : jS), k130 x1 x2 x3 x4 S = some z → jJ X (jMain D ad cy) 130 [(0, .ref (ad 41)), (1, .int x1), (2, .int x2), (3, .int x3), (4, .int x4)] [] S) (x1 : Int32) (x2 : Int32) (x3 : Int32) (x4 : Int32) (x5 : Int32) (x6 : Int32) (S : jS) (hE : lp_X12_chain_94 k130 x1 x2 x3 x4 x5 x6 S = some z) : jJ X (jMain D ad cy) 94 [(0, .ref (ad 41)), (1, .int x1), (2, .int x2), (3, .int x3), (4, .int x4), (5, .int x5), (6, .int x6)] [] S :=
  jloop_P (α := Int32 × Int32 × Int32 × Int32 × Int32 × Int32 × jS) (B := (fun g q => f_X12_chain_94 (fun x1 x2 x3 x4 x5 x6 S => g (x1, x2, x3, x4, x5, x6, S)) k130 q.1 q.2.1 q.2.2.1 q.2.2.2.1 q.2.2.2.2.1 q.2.2.2.2.2.1 q.2.2.2.2.2.2)) (P := fun q => jJ X (jMain D ad cy) 94 [(0, .ref (ad 41)), (1, .int q.1), (2, .int q.2.1), (3, .int q.2.2.1), (4, .int q.2.2.2.1), (5, .int q.2.2.2.2.1), (6, .int q.2.2.2.2.2.1)] [] q.2.2.2.2.2.2) (fun g q hg h => p_X12_chain_94 C Q (g := fun x1 x2 x3 x4 x5 x6 S => g (x1, x2, x3, x4, x5, x6, S)) (fun x1 x2 x3 x4 x5 x6 S h => hg (x1, x2, x3, x4, x5, x6, S) h) hk130 q.1 q.2.1 q.2.2.1 q.2.2.2.1 q.2.2.2.2.1 q.2.2.2.2.2.1 q.2.2.2.2.2.2 h) jN (x1, x2, x3, x4, x5, x6, S) hE
set_option maxRecDepth 100000 in
theorem p_X12_chain_130 {X : jX} {D : va_G} {ad : Nat → Nat} {cy : Nat → ClassId} (C : jC X (jMain D ad cy) RX12 cX12_chain (some .int) 7 2 45) {z : Int32 × jS} (Q : jRet X (jMain D ad cy) (some (.int z.1), z.2)) {g : Int32 → Int32 → Int32 → Int32 → jS → Option (Int32 × jS)} (hg : ∀ (x1 : Int32) (x2 : Int32) (x3 : Int32) (x4 : Int32) (S : jS), g x1 x2 x3 x4 S = some z → jJ X (jMain D ad cy) 38 [(0, .ref (ad 41)), (1, .int x1), (2, .int x2), (3, .int x3), (4, .int x4)] [] S) {k133 : Int32 → Int32 → Int32 → jS → Option (Int32 × jS)} (hk133 : ∀ (x1 : Int32) (x2 : Int32) (x3 : Int32) (S : jS), k133 x1 x2 x3 S = some z → jJ X (jMain D ad cy) 133 [(0, .ref (ad 41)), (1, .int x1), (2, .int x2), (3, .int x3)] [] S) (x1 : Int32) (x2 : Int32) (x3 : Int32) (x4 : Int32) (S : jS) (hE : f_X12_chain_130 g k133 x1 x2 x3 x4 S = some z) : jJ X (jMain D ad cy) 130 [(0, .ref (ad 41)), (1, .int x1), (2, .int x2), (3, .int x3), (4, .int x4)] [] S := by
  unfold f_X12_chain_130 at hE
  refine j_goto (tgt := 38) C dX12_chain_130 rfl ?_
  exact hg x1 x2 x3 x4 S hE
set_option maxRecDepth 100000 in
theorem p_X12_chain_89 {X : jX} {D : va_G} {ad : Nat → Nat} {cy : Nat → ClassId} (C : jC X (jMain D ad cy) RX12 cX12_chain (some .int) 7 2 45) {z : Int32 × jS} (Q : jRet X (jMain D ad cy) (some (.int z.1), z.2)) {g : Int32 → Int32 → Int32 → Int32 → jS → Option (Int32 × jS)} (hg : ∀ (x1 : Int32) (x2 : Int32) (x3 : Int32) (x4 : Int32) (S : jS), g x1 x2 x3 x4 S = some z → jJ X (jMain D ad cy) 38 [(0, .ref (ad 41)), (1, .int x1), (2, .int x2), (3, .int x3), (4, .int x4)] [] S) {k133 : Int32 → Int32 → Int32 → jS → Option (Int32 × jS)} (hk133 : ∀ (x1 : Int32) (x2 : Int32) (x3 : Int32) (S : jS), k133 x1 x2 x3 S = some z → jJ X (jMain D ad cy) 133 [(0, .ref (ad 41)), (1, .int x1), (2, .int x2), (3, .int x3)] [] S) (a0 : Int32) (x1 : Int32) (x2 : Int32) (x3 : Int32) (x5 : Int32) (S : jS) (hE : f_X12_chain_89 g k133 a0 x1 x2 x3 x5 S = some z) : jJ X (jMain D ad cy) 89 [(0, .ref (ad 41)), (1, .int x1), (2, .int x2), (3, .int x3), (5, .int x5)] [.int a0] S := by
  unfold f_X12_chain_89 at hE
  refine j_istore (lv' := [(4, .int a0), (0, .ref (ad 41)), (1, .int x1), (2, .int x2), (3, .int x3), (5, .int x5)]) C dX12_chain_89 (by decide) rfl ?_
  refine j_iconst (v := 0) C dX12_chain_91 jc_ic_0 ?_
  refine j_istore (lv' := [(6, .int 0), (4, .int a0), (0, .ref (ad 41)), (1, .int x1), (2, .int x2), (3, .int x3), (5, .int x5)]) C dX12_chain_92 (by decide) rfl ?_
  refine j_sub [2, 3, 4, 5, 1, 6, 0] rfl ?_
  exact q_X12_chain_94 C Q (p_X12_chain_130 C Q hg hk133) x1 x2 x3 a0 x5 0 S hE
set_option maxRecDepth 100000 in
theorem p_X12_chain_84 {X : jX} {D : va_G} {ad : Nat → Nat} {cy : Nat → ClassId} (C : jC X (jMain D ad cy) RX12 cX12_chain (some .int) 7 2 45) {z : Int32 × jS} (Q : jRet X (jMain D ad cy) (some (.int z.1), z.2)) {g : Int32 → Int32 → Int32 → Int32 → jS → Option (Int32 × jS)} (hg : ∀ (x1 : Int32) (x2 : Int32) (x3 : Int32) (x4 : Int32) (S : jS), g x1 x2 x3 x4 S = some z → jJ X (jMain D ad cy) 38 [(0, .ref (ad 41)), (1, .int x1), (2, .int x2), (3, .int x3), (4, .int x4)] [] S) {k133 : Int32 → Int32 → Int32 → jS → Option (Int32 × jS)} (hk133 : ∀ (x1 : Int32) (x2 : Int32) (x3 : Int32) (S : jS), k133 x1 x2 x3 S = some z → jJ X (jMain D ad cy) 133 [(0, .ref (ad 41)), (1, .int x1), (2, .int x2), (3, .int x3)] [] S) (x1 : Int32) (x2 : Int32) (x3 : Int32) (x5 : Int32) (S : jS) (hE : f_X12_chain_84 g k133 x1 x2 x3 x5 S = some z) : jJ X (jMain D ad cy) 84 [(0, .ref (ad 41)), (1, .int x1), (2, .int x2), (3, .int x3), (5, .int x5)] [] S := by
  unfold f_X12_chain_84 at hE
  refine j_iconst (v := 1) C dX12_chain_84 jc_ic_1 ?_
  refine j_goto (tgt := 89) C dX12_chain_85 rfl ?_
  exact p_X12_chain_89 C Q hg hk133 1 x1 x2 x3 x5 S hE
set_option maxRecDepth 100000 in
theorem p_X12_chain_38 {X : jX} {D : va_G} {ad : Nat → Nat} {cy : Nat → ClassId} (C : jC X (jMain D ad cy) RX12 cX12_chain (some .int) 7 2 45) {z : Int32 × jS} (Q : jRet X (jMain D ad cy) (some (.int z.1), z.2)) {g : Int32 → Int32 → Int32 → Int32 → jS → Option (Int32 × jS)} (hg : ∀ (x1 : Int32) (x2 : Int32) (x3 : Int32) (x4 : Int32) (S : jS), g x1 x2 x3 x4 S = some z → jJ X (jMain D ad cy) 38 [(0, .ref (ad 41)), (1, .int x1), (2, .int x2), (3, .int x3), (4, .int x4)] [] S) {k133 : Int32 → Int32 → Int32 → jS → Option (Int32 × jS)} (hk133 : ∀ (x1 : Int32) (x2 : Int32) (x3 : Int32) (S : jS), k133 x1 x2 x3 S = some z → jJ X (jMain D ad cy) 133 [(0, .ref (ad 41)), (1, .int x1), (2, .int x2), (3, .int x3)] [] S) (x1 : Int32) (x2 : Int32) (x3 : Int32) (x4 : Int32) (S : jS) (hE : f_X12_chain_38 g k133 x1 x2 x3 x4 S = some z) : jJ X (jMain D ad cy) 38 [(0, .ref (ad 41)), (1, .int x1), (2, .int x2), (3, .int x3), (4, .int x4)] [] S := by
  unfold f_X12_chain_38 at hE
  refine j_iload_n C dX12_chain_38 3 rfl ?_
  refine j_bipush (v := 20) C dX12_chain_39 jc_bp_20 ?_
  refine j_icmp_ge (tgt := 133) C dX12_chain_41 rfl hE (fun hE => ?_) (fun hE => ?_)
  · refine j_sub [0, 1, 2, 3] rfl ?_
    exact hk133 x1 x2 x3 S hE
  · refine j_iload C dX12_chain_44 4 rfl ?_
    refine j_if_ne (tgt := 133) C dX12_chain_46 rfl hE (fun hE => ?_) (fun hE => ?_)
    · refine j_sub [0, 1, 2, 3] rfl ?_
      exact hk133 x1 x2 x3 S hE
    · refine j_aload_n C dX12_chain_49 0 rfl ?_
      refine g_X12_42_41 C dX12_chain_50 ?_
      refine j_iload_n C dX12_chain_53 3 rfl ?_
      refine l_51 C dX12_chain_54 hE (fun v1 hE => ?_)
      refine k_X12_177_X12_partsOf C dX12_chain_55 hE (Nat.le_of_ble_eq_true rfl) (Nat.le_of_ble_eq_true rfl) (Nat.le_of_ble_eq_true rfl) (fun v3 S2 hE => ?_)
      refine j_istore (lv' := [(5, .int v3), (0, .ref (ad 41)), (1, .int x1), (2, .int x2), (3, .int x3), (4, .int x4)]) C dX12_chain_58 (by decide) rfl ?_
      refine j_iinc (v := (x3 + 1)) (lv' := [(3, .int (x3 + 1)), (5, .int v3), (0, .ref (ad 41)), (1, .int x1), (2, .int x2), (4, .int x4)]) C dX12_chain_60 4 rfl (congrArg (fun w => x3 + w) jc_ic_1) (by decide) rfl ?_
      refine j_aload_n C dX12_chain_63 2 rfl ?_
      refine g_X12_42_41 C dX12_chain_64 ?_
      refine j_iload_n C dX12_chain_67 0 rfl ?_
      refine j_iload C dX12_chain_68 1 rfl ?_
      refine s_51 C dX12_chain_70 hE (fun S4 hE => ?_)
      refine j_iload C dX12_chain_71 1 rfl ?_
      refine j_if_eq (tgt := 84) C dX12_chain_73 rfl hE (fun hE => ?_) (fun hE => ?_)
      · refine j_sub [2, 3, 4, 0, 1] rfl ?_
        exact p_X12_chain_84 C Q hg hk133 x1 x2 (x3 + 1) v3 S4 hE
      · refine j_iload C dX12_chain_76 1 rfl ?_
        refine j_sipush (v := 9999) C dX12_chain_78 jc_sp_9999 ?_
        refine j_icmp_le (tgt := 88) C dX12_chain_81 rfl hE (fun hE => ?_) (fun hE => ?_)
        · refine j_iconst (v := 0) C dX12_chain_88 jc_ic_0 ?_
          refine j_sub [2, 3, 4, 0, 1] rfl ?_
          exact p_X12_chain_89 C Q hg hk133 0 x1 x2 (x3 + 1) v3 S4 hE
        · refine j_sub [2, 3, 4, 0, 1] rfl ?_
          exact p_X12_chain_84 C Q hg hk133 x1 x2 (x3 + 1) v3 S4 hE
theorem q_X12_chain_38 {X : jX} {D : va_G} {ad : Nat → Nat} {cy : Nat → ClassId} (C : jC X (jMain D ad cy) RX12 cX12_chain (some .int) 7 2 45) {z : Int32 × jS} (Q : jRet X (jMain D ad cy) (some (.int z.1), z.2)) {k133 : Int32 → Int32 → Int32 → jS → Option (Int32 × jS)} (hk133 : ∀ (x1 : Int32) (x2 : Int32) (x3 : Int32) (S : jS), k133 x1 x2 x3 S = some z → jJ X (jMain D ad cy) 133 [(0, .ref (ad 41)), (1, .int x1), (2, .int x2), (3, .int x3)] [] S) (x1 : Int32) (x2 : Int32) (x3 : Int32) (x4 : Int32) (S : jS) (hE : lp_X12_chain_38 k133 x1 x2 x3 x4 S = some z) : jJ X (jMain D ad cy) 38 [(0, .ref (ad 41)), (1, .int x1), (2, .int x2), (3, .int x3), (4, .int x4)] [] S :=
  jloop_P (α := Int32 × Int32 × Int32 × Int32 × jS) (B := (fun g q => f_X12_chain_38 (fun x1 x2 x3 x4 S => g (x1, x2, x3, x4, S)) k133 q.1 q.2.1 q.2.2.1 q.2.2.2.1 q.2.2.2.2)) (P := fun q => jJ X (jMain D ad cy) 38 [(0, .ref (ad 41)), (1, .int q.1), (2, .int q.2.1), (3, .int q.2.2.1), (4, .int q.2.2.2.1)] [] q.2.2.2.2) (fun g q hg h => p_X12_chain_38 C Q (g := fun x1 x2 x3 x4 S => g (x1, x2, x3, x4, S)) (fun x1 x2 x3 x4 S h => hg (x1, x2, x3, x4, S) h) hk133 q.1 q.2.1 q.2.2.1 q.2.2.2.1 q.2.2.2.2 h) jN (x1, x2, x3, x4, S) hE
set_option maxRecDepth 100000 in
theorem p_X12_chain_170 {X : jX} {D : va_G} {ad : Nat → Nat} {cy : Nat → ClassId} (C : jC X (jMain D ad cy) RX12 cX12_chain (some .int) 7 2 45) {z : Int32 × jS} (Q : jRet X (jMain D ad cy) (some (.int z.1), z.2))  (a0 : Int32) (S : jS) (hE : f_X12_chain_170  a0 S = some z) : jJ X (jMain D ad cy) 170 [] [.int a0] S := by
  unfold f_X12_chain_170 at hE
  exact j_iret C Q dX12_chain_170 hE
set_option maxRecDepth 100000 in
theorem p_X12_chain_133 {X : jX} {D : va_G} {ad : Nat → Nat} {cy : Nat → ClassId} (C : jC X (jMain D ad cy) RX12 cX12_chain (some .int) 7 2 45) {z : Int32 × jS} (Q : jRet X (jMain D ad cy) (some (.int z.1), z.2))  (x1 : Int32) (x2 : Int32) (x3 : Int32) (S : jS) (hE : f_X12_chain_133  x1 x2 x3 S = some z) : jJ X (jMain D ad cy) 133 [(0, .ref (ad 41)), (1, .int x1), (2, .int x2), (3, .int x3)] [] S := by
  unfold f_X12_chain_133 at hE
  refine j_iload_n C dX12_chain_133 2 rfl ?_
  refine j_if_ne (tgt := 141) C dX12_chain_134 rfl hE (fun hE => ?_) (fun hE => ?_)
  · refine j_iload_n C dX12_chain_141 2 rfl ?_
    refine j_iconst (v := 1) C dX12_chain_142 jc_ic_1 ?_
    refine j_icmp_ne (tgt := 155) C dX12_chain_143 rfl hE (fun hE => ?_) (fun hE => ?_)
    · refine j_aload_n C dX12_chain_155 0 rfl ?_
      refine g_X12_23_41 C dX12_chain_156 ?_
      refine j_iload_n C dX12_chain_159 1 rfl ?_
      refine l_46 C dX12_chain_160 hE (fun v1 hE => ?_)
      refine j_iload_n C dX12_chain_161 1 rfl ?_
      refine j_icmp_ne (tgt := 169) C dX12_chain_162 rfl hE (fun hE => ?_) (fun hE => ?_)
      · refine j_iconst (v := 0) C dX12_chain_169 jc_ic_0 ?_
        refine j_sub [] rfl ?_
        exact p_X12_chain_170 C Q  0 S hE
      · refine j_iconst (v := 1) C dX12_chain_165 jc_ic_1 ?_
        refine j_goto (tgt := 170) C dX12_chain_166 rfl ?_
        refine j_sub [] rfl ?_
        exact p_X12_chain_170 C Q  1 S hE
    · refine j_aload_n C dX12_chain_146 0 rfl ?_
      refine g_X12_42_41 C dX12_chain_147 ?_
      refine j_iload_n C dX12_chain_150 3 rfl ?_
      refine l_51 C dX12_chain_151 hE (fun v2 hE => ?_)
      refine j_goto (tgt := 170) C dX12_chain_152 rfl ?_
      refine j_sub [] rfl ?_
      exact p_X12_chain_170 C Q  v2 S hE
  · refine j_iload_n C dX12_chain_137 3 rfl ?_
    refine j_goto (tgt := 170) C dX12_chain_138 rfl ?_
    refine j_sub [] rfl ?_
    exact p_X12_chain_170 C Q  x3 S hE
set_option maxRecDepth 100000 in
theorem p_X12_chain_e {X : jX} {D : va_G} {ad : Nat → Nat} {cy : Nat → ClassId} (C : jC X (jMain D ad cy) RX12 cX12_chain (some .int) 7 2 45) {z : Int32 × jS} (Q : jRet X (jMain D ad cy) (some (.int z.1), z.2))  (x1 : Int32) (x2 : Int32) (S : jS) (hE : f_X12_chain_e  x1 x2 S = some z) : jJ X (jMain D ad cy) 0 [(0, .ref (ad 41)), (1, .int x1), (2, .int x2)] [] S := by
  unfold f_X12_chain_e at hE
  refine j_iload_n C dX12_chain_0 1 rfl ?_
  refine k_X12_131_X12_isNumber C dX12_chain_1 hE (Nat.le_of_ble_eq_true rfl) (Nat.le_of_ble_eq_true rfl) (Nat.le_of_ble_eq_true rfl) (fun v2 S1 hE => ?_)
  refine j_if_eq (tgt := 19) C dX12_chain_4 rfl hE (fun hE => ?_) (fun hE => ?_)
  · refine j_sub [0] rfl ?_
    exact p_X12_chain_19 C Q   S1 hE
  · refine j_iload_n C dX12_chain_7 2 rfl ?_
    refine j_i2l C dX12_chain_8 ?_
    refine j_lconst (v := 0) C dX12_chain_9 jc_lc_0 ?_
    refine j_ldc2 (v := 2) C dX12_chain_10 tw_1130 ?_
    refine k_X12_59_X12_in C dX12_chain_13 hE (Nat.le_of_ble_eq_true rfl) (Nat.le_of_ble_eq_true rfl) (Nat.le_of_ble_eq_true rfl) (fun v4 S3 hE => ?_)
    refine j_if_ne (tgt := 26) C dX12_chain_16 rfl hE (fun hE => ?_) (fun hE => ?_)
    · refine j_iconst (v := 0) C dX12_chain_26 jc_ic_0 ?_
      refine j_istore_n (i := 3) (lv' := [(3, .int 0), (0, .ref (ad 41)), (1, .int x1), (2, .int x2)]) C dX12_chain_27 rfl (by decide) rfl ?_
      refine j_iconst (v := 0) C dX12_chain_28 jc_ic_0 ?_
      refine j_istore (lv' := [(4, .int 0), (3, .int 0), (0, .ref (ad 41)), (1, .int x1), (2, .int x2)]) C dX12_chain_29 (by decide) rfl ?_
      refine j_aload_n C dX12_chain_31 2 rfl ?_
      refine g_X12_42_41 C dX12_chain_32 ?_
      refine j_iconst (v := 0) C dX12_chain_35 jc_ic_0 ?_
      refine j_iload_n C dX12_chain_36 3 rfl ?_
      refine s_51 C dX12_chain_37 hE (fun S5 hE => ?_)
      refine j_sub [2, 3, 4, 1, 0] rfl ?_
      exact q_X12_chain_38 C Q (p_X12_chain_133 C Q ) x1 x2 0 0 S5 hE
    · refine j_sub [0] rfl ?_
      exact p_X12_chain_19 C Q   S3 hE
theorem c_X12_chain {l : Launch} {D : va_G} {ad : Nat → Nat} {cy : Nat → ClassId} (hO : jOk (jMain D ad cy)) (x1 : Int32) (x2 : Int32) (S : jS) {z : Int32 × jS} (hz : f_X12_chain x1 x2 S = some z) : Met l yX12_chain (.code yX12_chain cX12_chain 7 (some .int) :: jT) { frames := 2, cells := 0, slots := 0, locals := 45 } (va_Pc [.ref (ad 41), .int x1, .int x2] (jInv (jMain D ad cy) S)) (jQ (jMain D ad cy) (some (.int z.1), z.2)) 0 0 (yA (jMain D ad cy)) :=
  jMet hO (by decide +kernel) rfl (Nat.le_of_ble_eq_true rfl) (fun X _ C Q => p_X12_chain_e C Q x1 x2 S hz)
set_option maxRecDepth 100000 in
theorem p_X11_isLink_2 {X : jX} {D : va_G} {ad : Nat → Nat} {cy : Nat → ClassId} (C : jC X (jMain D ad cy) RX11 cX11_isLink (some .boolean) 3 0 0) {z : Int32 × jS} (Q : jRet X (jMain D ad cy) (some (.int z.1), z.2)) {g : Int32 → Int32 → jS → Option (Int32 × jS)} (hg : ∀ (x1 : Int32) (x2 : Int32) (S : jS), g x1 x2 S = some z → jJ X (jMain D ad cy) 2 [(0, .ref (ad 0)), (1, .int x1), (2, .int x2)] [] S) {k29 : jS → Option (Int32 × jS)} (hk29 : ∀  (S : jS), k29  S = some z → jJ X (jMain D ad cy) 29 [] [] S) {k37 : jS → Option (Int32 × jS)} (hk37 : ∀  (S : jS), k37  S = some z → jJ X (jMain D ad cy) 37 [] [] S) (x1 : Int32) (x2 : Int32) (S : jS) (hE : f_X11_isLink_2 g k29 k37 x1 x2 S = some z) : jJ X (jMain D ad cy) 2 [(0, .ref (ad 0)), (1, .int x1), (2, .int x2)] [] S := by
  unfold f_X11_isLink_2 at hE
  refine j_iload_n C dX11_isLink_2 2 rfl ?_
  refine j_aload_n C dX11_isLink_3 0 rfl ?_
  refine g_X11_197_0 C dX11_isLink_4 ?_
  refine j_icmp_ge (tgt := 37) C dX11_isLink_7 rfl hE (fun hE => ?_) (fun hE => ?_)
  · refine j_sub [] rfl ?_
    exact hk37  S hE
  · refine j_iload_n C dX11_isLink_10 2 rfl ?_
    refine j_aload_n C dX11_isLink_11 0 rfl ?_
    refine g_X11_63_0 C dX11_isLink_12 ?_
    refine n_40 C dX11_isLink_15 ?_
    refine j_icmp_ge (tgt := 37) C dX11_isLink_16 rfl hE (fun hE => ?_) (fun hE => ?_)
    · refine j_sub [] rfl ?_
      exact hk37  S hE
    · refine j_aload_n C dX11_isLink_19 0 rfl ?_
      refine g_X11_63_0 C dX11_isLink_20 ?_
      refine j_iload_n C dX11_isLink_23 2 rfl ?_
      refine l_40 C dX11_isLink_24 hE (fun v1 hE => ?_)
      refine j_iload_n C dX11_isLink_25 1 rfl ?_
      refine j_icmp_ne (tgt := 31) C dX11_isLink_26 rfl hE (fun hE => ?_) (fun hE => ?_)
      · refine j_iinc (v := (x2 + 1)) (lv' := [(2, .int (x2 + 1)), (0, .ref (ad 0)), (1, .int x1)]) C dX11_isLink_31 2 rfl (congrArg (fun w => x2 + w) jc_ic_1) (by decide) rfl ?_
        refine j_goto (tgt := 2) C dX11_isLink_34 rfl ?_
        refine j_sub [1, 2, 0] rfl ?_
        exact hg x1 (x2 + 1) S hE
      · refine j_sub [] rfl ?_
        exact hk29  S hE
theorem q_X11_isLink_2 {X : jX} {D : va_G} {ad : Nat → Nat} {cy : Nat → ClassId} (C : jC X (jMain D ad cy) RX11 cX11_isLink (some .boolean) 3 0 0) {z : Int32 × jS} (Q : jRet X (jMain D ad cy) (some (.int z.1), z.2)) {k29 : jS → Option (Int32 × jS)} (hk29 : ∀  (S : jS), k29  S = some z → jJ X (jMain D ad cy) 29 [] [] S) {k37 : jS → Option (Int32 × jS)} (hk37 : ∀  (S : jS), k37  S = some z → jJ X (jMain D ad cy) 37 [] [] S) (x1 : Int32) (x2 : Int32) (S : jS) (hE : lp_X11_isLink_2 k29 k37 x1 x2 S = some z) : jJ X (jMain D ad cy) 2 [(0, .ref (ad 0)), (1, .int x1), (2, .int x2)] [] S :=
  jloop_P (α := Int32 × Int32 × jS) (B := (fun g q => f_X11_isLink_2 (fun x1 x2 S => g (x1, x2, S)) k29 k37 q.1 q.2.1 q.2.2)) (P := fun q => jJ X (jMain D ad cy) 2 [(0, .ref (ad 0)), (1, .int q.1), (2, .int q.2.1)] [] q.2.2) (fun g q hg h => p_X11_isLink_2 C Q (g := fun x1 x2 S => g (x1, x2, S)) (fun x1 x2 S h => hg (x1, x2, S) h) hk29 hk37 q.1 q.2.1 q.2.2 h) jN (x1, x2, S) hE
set_option maxRecDepth 100000 in
theorem p_X11_isLink_29 {X : jX} {D : va_G} {ad : Nat → Nat} {cy : Nat → ClassId} (C : jC X (jMain D ad cy) RX11 cX11_isLink (some .boolean) 3 0 0) {z : Int32 × jS} (Q : jRet X (jMain D ad cy) (some (.int z.1), z.2))   (S : jS) (hE : f_X11_isLink_29   S = some z) : jJ X (jMain D ad cy) 29 [] [] S := by
  unfold f_X11_isLink_29 at hE
  refine j_iconst (v := 1) C dX11_isLink_29 jc_ic_1 ?_
  exact j_zret C Q dX11_isLink_30 hE
set_option maxRecDepth 100000 in
theorem p_X11_isLink_37 {X : jX} {D : va_G} {ad : Nat → Nat} {cy : Nat → ClassId} (C : jC X (jMain D ad cy) RX11 cX11_isLink (some .boolean) 3 0 0) {z : Int32 × jS} (Q : jRet X (jMain D ad cy) (some (.int z.1), z.2))   (S : jS) (hE : f_X11_isLink_37   S = some z) : jJ X (jMain D ad cy) 37 [] [] S := by
  unfold f_X11_isLink_37 at hE
  refine j_iconst (v := 0) C dX11_isLink_37 jc_ic_0 ?_
  exact j_zret C Q dX11_isLink_38 hE
set_option maxRecDepth 100000 in
theorem p_X11_isLink_e {X : jX} {D : va_G} {ad : Nat → Nat} {cy : Nat → ClassId} (C : jC X (jMain D ad cy) RX11 cX11_isLink (some .boolean) 3 0 0) {z : Int32 × jS} (Q : jRet X (jMain D ad cy) (some (.int z.1), z.2))  (x1 : Int32) (S : jS) (hE : f_X11_isLink_e  x1 S = some z) : jJ X (jMain D ad cy) 0 [(0, .ref (ad 0)), (1, .int x1)] [] S := by
  unfold f_X11_isLink_e at hE
  refine j_iconst (v := 0) C dX11_isLink_0 jc_ic_0 ?_
  refine j_istore_n (i := 2) (lv' := [(2, .int 0), (0, .ref (ad 0)), (1, .int x1)]) C dX11_isLink_1 rfl (by decide) rfl ?_
  refine j_sub [1, 2, 0] rfl ?_
  exact q_X11_isLink_2 C Q (p_X11_isLink_29 C Q ) (p_X11_isLink_37 C Q ) x1 0 S hE
theorem c_X11_isLink {l : Launch} {D : va_G} {ad : Nat → Nat} {cy : Nat → ClassId} (hO : jOk (jMain D ad cy)) (x1 : Int32) (S : jS) {z : Int32 × jS} (hz : f_X11_isLink x1 S = some z) : Met l yX11_isLink (.code yX11_isLink cX11_isLink 3 (some .boolean) :: jT) { frames := 0, cells := 0, slots := 0, locals := 0 } (va_Pc [.ref (ad 0), .int x1] (jInv (jMain D ad cy) S)) (jQ (jMain D ad cy) (some (.int z.1), z.2)) 0 0 (yA (jMain D ad cy)) :=
  jMet hO (by decide +kernel) rfl (Nat.le_of_ble_eq_true rfl) (fun X _ C Q => p_X11_isLink_e C Q x1 S hz)
theorem k_X11_296_X11_isLink {X : jX} {D : va_G} {ad : Nat → Nat} {cy : Nat → ClassId} {cc : ByteArray} {ret : Option FieldType} {nL fr lo pc : Nat} {lv : List (Nat × Value)} {st : List Value} {S : jS} {β : Type} {z : β} (C : jC X (jMain D ad cy) RX11 cc ret nL fr lo) {a0 : Int32} {E : Int32 → jS → Option β} (d : decode cc pc = .ok (.invokevirtual 296, 3)) (hE : jcl (f_X11_isLink a0 S) E = some z) (hfr : 1 ≤ fr) (hlo : 22 ≤ lo) (hst : (st.map fun v => v.category).sum ≤ 8) (K : ∀ (v : Int32) (S1 : jS), E v S1 = some z → jJ X (jMain D ad cy) (pc + 3) lv (.int v :: st) S1) : jJ X (jMain D ad cy) pc lv (.int a0 :: .ref (ad 0) :: st) S := by
  obtain ⟨v, h1, h2⟩ := jcl_some hE
  exact j_callV (k := 0) (ci := 11) (T := TX11) (N := 16) (n := 1) (As := [.int a0]) C (c_X11_isLink C.2.2.2.2.2.2.1 a0 S h1) tw_712 tw_714 tw_24 tw_70 tw_715 (by decide +kernel) rfl (by decide : 0 < 56) rfl rfl hfr hlo hst rfl d (K _ _ h2)
set_option maxRecDepth 100000 in
theorem p_X11_followChain_63 {X : jX} {D : va_G} {ad : Nat → Nat} {cy : Nat → ClassId} (C : jC X (jMain D ad cy) RX11 cX11_followChain (some .int) 5 2 44) {z : Int32 × jS} (Q : jRet X (jMain D ad cy) (some (.int z.1), z.2)) {g : Int32 → Int32 → Int32 → jS → Option (Int32 × jS)} (hg : ∀ (x2 : Int32) (x3 : Int32) (x4 : Int32) (S : jS), g x2 x3 x4 S = some z → jJ X (jMain D ad cy) 19 [(0, .ref (ad 0)), (2, .int x2), (3, .int x3), (4, .int x4)] [] S) {k86 : Int32 → jS → Option (Int32 × jS)} (hk86 : ∀ (x2 : Int32) (S : jS), k86 x2 S = some z → jJ X (jMain D ad cy) 86 [(2, .int x2)] [] S) (a0 : Int32) (x2 : Int32) (x4 : Int32) (S : jS) (hE : f_X11_followChain_63 g k86 a0 x2 x4 S = some z) : jJ X (jMain D ad cy) 63 [(0, .ref (ad 0)), (2, .int x2), (4, .int x4)] [.int a0] S := by
  unfold f_X11_followChain_63 at hE
  refine j_istore_n (i := 3) (lv' := [(3, .int a0), (0, .ref (ad 0)), (2, .int x2), (4, .int x4)]) C dX11_followChain_63 rfl (by decide) rfl ?_
  refine j_aload_n C dX11_followChain_64 1 rfl ?_
  refine g_X11_63_0 C dX11_followChain_65 ?_
  refine j_iload C dX11_followChain_68 3 rfl ?_
  refine j_iload_n C dX11_followChain_70 2 rfl ?_
  refine s_40 C dX11_followChain_71 hE (fun S1 hE => ?_)
  refine j_aload_n C dX11_followChain_72 1 rfl ?_
  refine j_iload C dX11_followChain_73 3 rfl ?_
  refine j_iconst (v := 1) C dX11_followChain_75 jc_ic_1 ?_
  refine j_iadd C dX11_followChain_76 ?_
  refine p_X11_197_0 C dX11_followChain_77 hE (fun S2 hE => ?_)
  refine j_iinc (v := (x4 + 1)) (lv' := [(4, .int (x4 + 1)), (3, .int a0), (0, .ref (ad 0)), (2, .int x2)]) C dX11_followChain_80 3 rfl (congrArg (fun w => x4 + w) jc_ic_1) (by decide) rfl ?_
  refine j_goto (tgt := 19) C dX11_followChain_83 rfl ?_
  refine j_sub [2, 3, 1, 0] rfl ?_
  exact hg x2 a0 (x4 + 1) S2 hE
set_option maxRecDepth 100000 in
theorem p_X11_followChain_58 {X : jX} {D : va_G} {ad : Nat → Nat} {cy : Nat → ClassId} (C : jC X (jMain D ad cy) RX11 cX11_followChain (some .int) 5 2 44) {z : Int32 × jS} (Q : jRet X (jMain D ad cy) (some (.int z.1), z.2)) {g : Int32 → Int32 → Int32 → jS → Option (Int32 × jS)} (hg : ∀ (x2 : Int32) (x3 : Int32) (x4 : Int32) (S : jS), g x2 x3 x4 S = some z → jJ X (jMain D ad cy) 19 [(0, .ref (ad 0)), (2, .int x2), (3, .int x3), (4, .int x4)] [] S) {k86 : Int32 → jS → Option (Int32 × jS)} (hk86 : ∀ (x2 : Int32) (S : jS), k86 x2 S = some z → jJ X (jMain D ad cy) 86 [(2, .int x2)] [] S) (x2 : Int32) (x4 : Int32) (S : jS) (hE : f_X11_followChain_58 g k86 x2 x4 S = some z) : jJ X (jMain D ad cy) 58 [(0, .ref (ad 0)), (2, .int x2), (4, .int x4)] [] S := by
  unfold f_X11_followChain_58 at hE
  refine j_iconst (v := 1) C dX11_followChain_58 jc_ic_1 ?_
  refine j_goto (tgt := 63) C dX11_followChain_59 rfl ?_
  exact p_X11_followChain_63 C Q hg hk86 1 x2 x4 S hE
set_option maxRecDepth 100000 in
theorem p_X11_followChain_19 {X : jX} {D : va_G} {ad : Nat → Nat} {cy : Nat → ClassId} (C : jC X (jMain D ad cy) RX11 cX11_followChain (some .int) 5 2 44) {z : Int32 × jS} (Q : jRet X (jMain D ad cy) (some (.int z.1), z.2)) {g : Int32 → Int32 → Int32 → jS → Option (Int32 × jS)} (hg : ∀ (x2 : Int32) (x3 : Int32) (x4 : Int32) (S : jS), g x2 x3 x4 S = some z → jJ X (jMain D ad cy) 19 [(0, .ref (ad 0)), (2, .int x2), (3, .int x3), (4, .int x4)] [] S) {k86 : Int32 → jS → Option (Int32 × jS)} (hk86 : ∀ (x2 : Int32) (S : jS), k86 x2 S = some z → jJ X (jMain D ad cy) 86 [(2, .int x2)] [] S) (x2 : Int32) (x3 : Int32) (x4 : Int32) (S : jS) (hE : f_X11_followChain_19 g k86 x2 x3 x4 S = some z) : jJ X (jMain D ad cy) 19 [(0, .ref (ad 0)), (2, .int x2), (3, .int x3), (4, .int x4)] [] S := by
  unfold f_X11_followChain_19 at hE
  refine j_iload C dX11_followChain_19 3 rfl ?_
  refine j_bipush (v := 20) C dX11_followChain_21 jc_bp_20 ?_
  refine j_icmp_gt (tgt := 86) C dX11_followChain_23 rfl hE (fun hE => ?_) (fun hE => ?_)
  · refine j_sub [1] rfl ?_
    exact hk86 x2 S hE
  · refine j_iload_n C dX11_followChain_26 2 rfl ?_
    refine j_if_ne (tgt := 86) C dX11_followChain_27 rfl hE (fun hE => ?_) (fun hE => ?_)
    · refine j_sub [1] rfl ?_
      exact hk86 x2 S hE
    · refine j_aload_n C dX11_followChain_30 0 rfl ?_
      refine g_X11_10_0 C dX11_followChain_31 ?_
      refine j_iload_n C dX11_followChain_34 1 rfl ?_
      refine k_X11_132_X3_partsOf C dX11_followChain_35 hE (Nat.le_of_ble_eq_true rfl) (Nat.le_of_ble_eq_true rfl) (Nat.le_of_ble_eq_true rfl) (fun v2 S1 hE => ?_)
      refine j_istore_n (i := 2) (lv' := [(2, .int v2), (0, .ref (ad 0)), (3, .int x3), (4, .int x4)]) C dX11_followChain_38 rfl (by decide) rfl ?_
      refine j_iload_n C dX11_followChain_39 0 rfl ?_
      refine j_if_eq (tgt := 58) C dX11_followChain_40 rfl hE (fun hE => ?_) (fun hE => ?_)
      · refine j_sub [1, 0, 3] rfl ?_
        exact p_X11_followChain_58 C Q hg hk86 v2 x4 S1 hE
      · refine j_iload_n C dX11_followChain_43 0 rfl ?_
        refine j_sipush (v := 9999) C dX11_followChain_44 jc_sp_9999 ?_
        refine j_icmp_gt (tgt := 58) C dX11_followChain_47 rfl hE (fun hE => ?_) (fun hE => ?_)
        · refine j_sub [1, 0, 3] rfl ?_
          exact p_X11_followChain_58 C Q hg hk86 v2 x4 S1 hE
        · refine j_aload_n C dX11_followChain_50 1 rfl ?_
          refine j_iload_n C dX11_followChain_51 0 rfl ?_
          refine k_X11_296_X11_isLink C dX11_followChain_52 hE (Nat.le_of_ble_eq_true rfl) (Nat.le_of_ble_eq_true rfl) (Nat.le_of_ble_eq_true rfl) (fun v4 S3 hE => ?_)
          refine j_if_eq (tgt := 62) C dX11_followChain_55 rfl hE (fun hE => ?_) (fun hE => ?_)
          · refine j_iconst (v := 0) C dX11_followChain_62 jc_ic_0 ?_
            refine j_sub [1, 0, 3] rfl ?_
            exact p_X11_followChain_63 C Q hg hk86 0 v2 x4 S3 hE
          · refine j_sub [1, 0, 3] rfl ?_
            exact p_X11_followChain_58 C Q hg hk86 v2 x4 S3 hE
theorem q_X11_followChain_19 {X : jX} {D : va_G} {ad : Nat → Nat} {cy : Nat → ClassId} (C : jC X (jMain D ad cy) RX11 cX11_followChain (some .int) 5 2 44) {z : Int32 × jS} (Q : jRet X (jMain D ad cy) (some (.int z.1), z.2)) {k86 : Int32 → jS → Option (Int32 × jS)} (hk86 : ∀ (x2 : Int32) (S : jS), k86 x2 S = some z → jJ X (jMain D ad cy) 86 [(2, .int x2)] [] S) (x2 : Int32) (x3 : Int32) (x4 : Int32) (S : jS) (hE : lp_X11_followChain_19 k86 x2 x3 x4 S = some z) : jJ X (jMain D ad cy) 19 [(0, .ref (ad 0)), (2, .int x2), (3, .int x3), (4, .int x4)] [] S :=
  jloop_P (α := Int32 × Int32 × Int32 × jS) (B := (fun g q => f_X11_followChain_19 (fun x2 x3 x4 S => g (x2, x3, x4, S)) k86 q.1 q.2.1 q.2.2.1 q.2.2.2)) (P := fun q => jJ X (jMain D ad cy) 19 [(0, .ref (ad 0)), (2, .int q.1), (3, .int q.2.1), (4, .int q.2.2.1)] [] q.2.2.2) (fun g q hg h => p_X11_followChain_19 C Q (g := fun x2 x3 x4 S => g (x2, x3, x4, S)) (fun x2 x3 x4 S h => hg (x2, x3, x4, S) h) hk86 q.1 q.2.1 q.2.2.1 q.2.2.2 h) jN (x2, x3, x4, S) hE
set_option maxRecDepth 100000 in
theorem p_X11_followChain_86 {X : jX} {D : va_G} {ad : Nat → Nat} {cy : Nat → ClassId} (C : jC X (jMain D ad cy) RX11 cX11_followChain (some .int) 5 2 44) {z : Int32 × jS} (Q : jRet X (jMain D ad cy) (some (.int z.1), z.2))  (x2 : Int32) (S : jS) (hE : f_X11_followChain_86  x2 S = some z) : jJ X (jMain D ad cy) 86 [(2, .int x2)] [] S := by
  unfold f_X11_followChain_86 at hE
  refine j_iload_n C dX11_followChain_86 0 rfl ?_
  exact j_iret C Q dX11_followChain_87 hE
set_option maxRecDepth 100000 in
theorem p_X11_followChain_e {X : jX} {D : va_G} {ad : Nat → Nat} {cy : Nat → ClassId} (C : jC X (jMain D ad cy) RX11 cX11_followChain (some .int) 5 2 44) {z : Int32 × jS} (Q : jRet X (jMain D ad cy) (some (.int z.1), z.2))  (x1 : Int32) (S : jS) (hE : f_X11_followChain_e  x1 S = some z) : jJ X (jMain D ad cy) 0 [(0, .ref (ad 0)), (1, .int x1)] [] S := by
  unfold f_X11_followChain_e at hE
  refine j_aload_n C dX11_followChain_0 0 rfl ?_
  refine g_X11_63_0 C dX11_followChain_1 ?_
  refine j_iconst (v := 0) C dX11_followChain_4 jc_ic_0 ?_
  refine j_iload_n C dX11_followChain_5 1 rfl ?_
  refine s_40 C dX11_followChain_6 hE (fun S1 hE => ?_)
  refine j_aload_n C dX11_followChain_7 0 rfl ?_
  refine j_iconst (v := 1) C dX11_followChain_8 jc_ic_1 ?_
  refine p_X11_197_0 C dX11_followChain_9 hE (fun S2 hE => ?_)
  refine j_iload_n C dX11_followChain_12 1 rfl ?_
  refine j_istore_n (i := 2) (lv' := [(2, .int x1), (0, .ref (ad 0)), (1, .int x1)]) C dX11_followChain_13 rfl (by decide) rfl ?_
  refine j_iconst (v := 0) C dX11_followChain_14 jc_ic_0 ?_
  refine j_istore_n (i := 3) (lv' := [(3, .int 0), (2, .int x1), (0, .ref (ad 0)), (1, .int x1)]) C dX11_followChain_15 rfl (by decide) rfl ?_
  refine j_iconst (v := 1) C dX11_followChain_16 jc_ic_1 ?_
  refine j_istore (lv' := [(4, .int 1), (3, .int 0), (2, .int x1), (0, .ref (ad 0)), (1, .int x1)]) C dX11_followChain_17 (by decide) rfl ?_
  refine j_sub [3, 2, 1, 0] rfl ?_
  exact q_X11_followChain_19 C Q (p_X11_followChain_86 C Q ) x1 0 1 S2 hE
theorem c_X11_followChain {l : Launch} {D : va_G} {ad : Nat → Nat} {cy : Nat → ClassId} (hO : jOk (jMain D ad cy)) (x1 : Int32) (S : jS) {z : Int32 × jS} (hz : f_X11_followChain x1 S = some z) : Met l yX11_followChain (.code yX11_followChain cX11_followChain 5 (some .int) :: jT) { frames := 2, cells := 0, slots := 0, locals := 44 } (va_Pc [.ref (ad 0), .int x1] (jInv (jMain D ad cy) S)) (jQ (jMain D ad cy) (some (.int z.1), z.2)) 0 0 (yA (jMain D ad cy)) :=
  jMet hO (by decide +kernel) rfl (Nat.le_of_ble_eq_true rfl) (fun X _ C Q => p_X11_followChain_e C Q x1 S hz)
theorem k_X11_194_X11_followChain {X : jX} {D : va_G} {ad : Nat → Nat} {cy : Nat → ClassId} {cc : ByteArray} {ret : Option FieldType} {nL fr lo pc : Nat} {lv : List (Nat × Value)} {st : List Value} {S : jS} {β : Type} {z : β} (C : jC X (jMain D ad cy) RX11 cc ret nL fr lo) {a0 : Int32} {E : Int32 → jS → Option β} (d : decode cc pc = .ok (.invokevirtual 194, 3)) (hE : jcl (f_X11_followChain a0 S) E = some z) (hfr : 3 ≤ fr) (hlo : 68 ≤ lo) (hst : (st.map fun v => v.category).sum ≤ 8) (K : ∀ (v : Int32) (S1 : jS), E v S1 = some z → jJ X (jMain D ad cy) (pc + 3) lv (.int v :: st) S1) : jJ X (jMain D ad cy) pc lv (.int a0 :: .ref (ad 0) :: st) S := by
  obtain ⟨v, h1, h2⟩ := jcl_some hE
  exact j_callV (k := 0) (ci := 11) (T := TX11) (N := 16) (n := 1) (As := [.int a0]) C (c_X11_followChain C.2.2.2.2.2.2.1 a0 S h1) tw_708 tw_710 tw_23 tw_70 tw_711 (by decide +kernel) rfl (by decide : 0 < 56) rfl rfl hfr hlo hst rfl d (K _ _ h2)
set_option maxRecDepth 100000 in
theorem p_X11_chain_16 {X : jX} {D : va_G} {ad : Nat → Nat} {cy : Nat → ClassId} (C : jC X (jMain D ad cy) RX11 cX11_chain (some .int) 4 3 68) {z : Int32 × jS} (Q : jRet X (jMain D ad cy) (some (.int z.1), z.2))   (S : jS) (hE : f_X11_chain_16   S = some z) : jJ X (jMain D ad cy) 16 [(0, .ref (ad 0))] [] S := by
  unfold f_X11_chain_16 at hE
  refine j_aload_n C dX11_chain_16 0 rfl ?_
  refine k_X11_74_X11_refuseBad C dX11_chain_17 hE (Nat.le_of_ble_eq_true rfl) (Nat.le_of_ble_eq_true rfl) (Nat.le_of_ble_eq_true rfl) (fun v2 S1 hE => ?_)
  exact j_iret C Q dX11_chain_20 hE
set_option maxRecDepth 100000 in
theorem p_X11_chain_67 {X : jX} {D : va_G} {ad : Nat → Nat} {cy : Nat → ClassId} (C : jC X (jMain D ad cy) RX11 cX11_chain (some .int) 4 3 68) {z : Int32 × jS} (Q : jRet X (jMain D ad cy) (some (.int z.1), z.2))  (a0 : Int32) (S : jS) (hE : f_X11_chain_67  a0 S = some z) : jJ X (jMain D ad cy) 67 [] [.int a0] S := by
  unfold f_X11_chain_67 at hE
  exact j_iret C Q dX11_chain_67 hE
set_option maxRecDepth 100000 in
theorem p_X11_chain_43 {X : jX} {D : va_G} {ad : Nat → Nat} {cy : Nat → ClassId} (C : jC X (jMain D ad cy) RX11 cX11_chain (some .int) 4 3 68) {z : Int32 × jS} (Q : jRet X (jMain D ad cy) (some (.int z.1), z.2))  (a0 : Int32) (S : jS) (hE : f_X11_chain_43  a0 S = some z) : jJ X (jMain D ad cy) 43 [] [.int a0] S := by
  unfold f_X11_chain_43 at hE
  refine k_X11_139_X11_bit C dX11_chain_43 hE (Nat.le_of_ble_eq_true rfl) (Nat.le_of_ble_eq_true rfl) (Nat.le_of_ble_eq_true rfl) (fun v2 S1 hE => ?_)
  exact j_iret C Q dX11_chain_46 hE
set_option maxRecDepth 100000 in
theorem p_X11_chain_e {X : jX} {D : va_G} {ad : Nat → Nat} {cy : Nat → ClassId} (C : jC X (jMain D ad cy) RX11 cX11_chain (some .int) 4 3 68) {z : Int32 × jS} (Q : jRet X (jMain D ad cy) (some (.int z.1), z.2))  (x1 : Int32) (x2 : Int32) (S : jS) (hE : f_X11_chain_e  x1 x2 S = some z) : jJ X (jMain D ad cy) 0 [(0, .ref (ad 0)), (1, .int x1), (2, .int x2)] [] S := by
  unfold f_X11_chain_e at hE
  refine j_iload_n C dX11_chain_0 1 rfl ?_
  refine k_X11_153_X11_isNumber C dX11_chain_1 hE (Nat.le_of_ble_eq_true rfl) (Nat.le_of_ble_eq_true rfl) (Nat.le_of_ble_eq_true rfl) (fun v2 S1 hE => ?_)
  refine j_if_eq (tgt := 16) C dX11_chain_4 rfl hE (fun hE => ?_) (fun hE => ?_)
  · refine j_sub [0] rfl ?_
    exact p_X11_chain_16 C Q   S1 hE
  · refine j_iload_n C dX11_chain_7 2 rfl ?_
    refine j_if_lt (tgt := 16) C dX11_chain_8 rfl hE (fun hE => ?_) (fun hE => ?_)
    · refine j_sub [0] rfl ?_
      exact p_X11_chain_16 C Q   S1 hE
    · refine j_iload_n C dX11_chain_11 2 rfl ?_
      refine j_iconst (v := 2) C dX11_chain_12 jc_ic_2 ?_
      refine j_icmp_le (tgt := 21) C dX11_chain_13 rfl hE (fun hE => ?_) (fun hE => ?_)
      · refine j_iload_n C dX11_chain_21 2 rfl ?_
        refine j_iconst (v := 2) C dX11_chain_22 jc_ic_2 ?_
        refine j_icmp_ne (tgt := 47) C dX11_chain_23 rfl hE (fun hE => ?_) (fun hE => ?_)
        · refine j_aload_n C dX11_chain_47 0 rfl ?_
          refine j_iload_n C dX11_chain_48 1 rfl ?_
          refine k_X11_194_X11_followChain C dX11_chain_49 hE (Nat.le_of_ble_eq_true rfl) (Nat.le_of_ble_eq_true rfl) (Nat.le_of_ble_eq_true rfl) (fun v4 S3 hE => ?_)
          refine j_istore_n (i := 3) (lv' := [(3, .int v4), (0, .ref (ad 0)), (1, .int x1), (2, .int x2)]) C dX11_chain_52 rfl (by decide) rfl ?_
          refine j_iload_n C dX11_chain_53 3 rfl ?_
          refine j_if_ne (tgt := 66) C dX11_chain_54 rfl hE (fun hE => ?_) (fun hE => ?_)
          · refine j_iload_n C dX11_chain_66 0 rfl ?_
            refine j_sub [] rfl ?_
            exact p_X11_chain_67 C Q  v4 S3 hE
          · refine j_aload_n C dX11_chain_57 1 rfl ?_
            refine g_X11_197_0 C dX11_chain_58 ?_
            refine j_iconst (v := 1) C dX11_chain_61 jc_ic_1 ?_
            refine j_isub C dX11_chain_62 ?_
            refine j_goto (tgt := 67) C dX11_chain_63 rfl ?_
            refine j_sub [] rfl ?_
            exact p_X11_chain_67 C Q  ((S3.1 0 10) - 1) S3 hE
        · refine j_aload_n C dX11_chain_26 0 rfl ?_
          refine g_X11_10_0 C dX11_chain_27 ?_
          refine j_iload_n C dX11_chain_30 1 rfl ?_
          refine k_X11_132_X3_partsOf C dX11_chain_31 hE (Nat.le_of_ble_eq_true rfl) (Nat.le_of_ble_eq_true rfl) (Nat.le_of_ble_eq_true rfl) (fun v6 S5 hE => ?_)
          refine j_iload_n C dX11_chain_34 1 rfl ?_
          refine j_icmp_ne (tgt := 42) C dX11_chain_35 rfl hE (fun hE => ?_) (fun hE => ?_)
          · refine j_iconst (v := 0) C dX11_chain_42 jc_ic_0 ?_
            refine j_sub [] rfl ?_
            exact p_X11_chain_43 C Q  0 S5 hE
          · refine j_iconst (v := 1) C dX11_chain_38 jc_ic_1 ?_
            refine j_goto (tgt := 43) C dX11_chain_39 rfl ?_
            refine j_sub [] rfl ?_
            exact p_X11_chain_43 C Q  1 S5 hE
      · refine j_sub [0] rfl ?_
        exact p_X11_chain_16 C Q   S1 hE
theorem c_X11_chain {l : Launch} {D : va_G} {ad : Nat → Nat} {cy : Nat → ClassId} (hO : jOk (jMain D ad cy)) (x1 : Int32) (x2 : Int32) (S : jS) {z : Int32 × jS} (hz : f_X11_chain x1 x2 S = some z) : Met l yX11_chain (.code yX11_chain cX11_chain 4 (some .int) :: jT) { frames := 3, cells := 0, slots := 0, locals := 68 } (va_Pc [.ref (ad 0), .int x1, .int x2] (jInv (jMain D ad cy) S)) (jQ (jMain D ad cy) (some (.int z.1), z.2)) 0 0 (yA (jMain D ad cy)) :=
  jMet hO (by decide +kernel) rfl (Nat.le_of_ble_eq_true rfl) (fun X _ C Q => p_X11_chain_e C Q x1 x2 S hz)
set_option maxRecDepth 100000 in
theorem p_X12_daysTill_35 {X : jX} {D : va_G} {ad : Nat → Nat} {cy : Nat → ClassId} (C : jC X (jMain D ad cy) RX12 cX12_daysTill (some .int) 3 0 0) {z : Int32 × jS} (Q : jRet X (jMain D ad cy) (some (.int z.1), z.2))  (a0 : Int32) (S : jS) (hE : f_X12_daysTill_35  a0 S = some z) : jJ X (jMain D ad cy) 35 [] [.int a0] S := by
  unfold f_X12_daysTill_35 at hE
  exact j_iret C Q dX12_daysTill_35 hE
set_option maxRecDepth 100000 in
theorem p_X12_daysTill_e {X : jX} {D : va_G} {ad : Nat → Nat} {cy : Nat → ClassId} (C : jC X (jMain D ad cy) RX12 cX12_daysTill (some .int) 3 0 0) {z : Int32 × jS} (Q : jRet X (jMain D ad cy) (some (.int z.1), z.2))  (x1 : Int32) (x2 : Int32) (S : jS) (hE : f_X12_daysTill_e  x1 x2 S = some z) : jJ X (jMain D ad cy) 0 [(0, .ref (ad 41)), (1, .int x1), (2, .int x2)] [] S := by
  unfold f_X12_daysTill_e at hE
  refine j_iload_n C dX12_daysTill_0 2 rfl ?_
  refine j_iload_n C dX12_daysTill_1 1 rfl ?_
  refine j_icmp_gt (tgt := 11) C dX12_daysTill_2 rfl hE (fun hE => ?_) (fun hE => ?_)
  · refine j_aload_n C dX12_daysTill_11 0 rfl ?_
    refine g_X12_7_41 C dX12_daysTill_12 ?_
    refine j_iload_n C dX12_daysTill_15 1 rfl ?_
    refine l_42 C dX12_daysTill_16 hE (fun v1 hE => ?_)
    refine j_iload_n C dX12_daysTill_17 2 rfl ?_
    refine j_iload_n C dX12_daysTill_18 1 rfl ?_
    refine j_isub C dX12_daysTill_19 ?_
    refine j_aload_n C dX12_daysTill_20 0 rfl ?_
    refine g_X12_7_41 C dX12_daysTill_21 ?_
    refine j_iload_n C dX12_daysTill_24 1 rfl ?_
    refine l_42 C dX12_daysTill_25 hE (fun v2 hE => ?_)
    refine j_irem C dX12_daysTill_26 hE (fun v3 hE => ?_)
    refine j_isub C dX12_daysTill_27 ?_
    refine j_aload_n C dX12_daysTill_28 0 rfl ?_
    refine g_X12_7_41 C dX12_daysTill_29 ?_
    refine j_iload_n C dX12_daysTill_32 1 rfl ?_
    refine l_42 C dX12_daysTill_33 hE (fun v4 hE => ?_)
    refine j_irem C dX12_daysTill_34 hE (fun v5 hE => ?_)
    refine j_sub [] rfl ?_
    exact p_X12_daysTill_35 C Q  v5 S hE
  · refine j_iload_n C dX12_daysTill_5 1 rfl ?_
    refine j_iload_n C dX12_daysTill_6 2 rfl ?_
    refine j_isub C dX12_daysTill_7 ?_
    refine j_goto (tgt := 35) C dX12_daysTill_8 rfl ?_
    refine j_sub [] rfl ?_
    exact p_X12_daysTill_35 C Q  (x1 - x2) S hE
theorem c_X12_daysTill {l : Launch} {D : va_G} {ad : Nat → Nat} {cy : Nat → ClassId} (hO : jOk (jMain D ad cy)) (x1 : Int32) (x2 : Int32) (S : jS) {z : Int32 × jS} (hz : f_X12_daysTill x1 x2 S = some z) : Met l yX12_daysTill (.code yX12_daysTill cX12_daysTill 3 (some .int) :: jT) { frames := 0, cells := 0, slots := 0, locals := 0 } (va_Pc [.ref (ad 41), .int x1, .int x2] (jInv (jMain D ad cy) S)) (jQ (jMain D ad cy) (some (.int z.1), z.2)) 0 0 (yA (jMain D ad cy)) :=
  jMet hO (by decide +kernel) rfl (Nat.le_of_ble_eq_true rfl) (fun X _ C Q => p_X12_daysTill_e C Q x1 x2 S hz)
theorem k_X12_181_X12_daysTill {X : jX} {D : va_G} {ad : Nat → Nat} {cy : Nat → ClassId} {cc : ByteArray} {ret : Option FieldType} {nL fr lo pc : Nat} {lv : List (Nat × Value)} {st : List Value} {S : jS} {β : Type} {z : β} (C : jC X (jMain D ad cy) RX12 cc ret nL fr lo) {a0 : Int32} {a1 : Int32} {E : Int32 → jS → Option β} (d : decode cc pc = .ok (.invokevirtual 181, 3)) (hE : jcl (f_X12_daysTill a0 a1 S) E = some z) (hfr : 1 ≤ fr) (hlo : 22 ≤ lo) (hst : (st.map fun v => v.category).sum ≤ 8) (K : ∀ (v : Int32) (S1 : jS), E v S1 = some z → jJ X (jMain D ad cy) (pc + 3) lv (.int v :: st) S1) : jJ X (jMain D ad cy) pc lv (.int a1 :: .int a0 :: .ref (ad 41) :: st) S := by
  obtain ⟨v, h1, h2⟩ := jcl_some hE
  exact j_callV (k := 41) (ci := 12) (T := TX12) (N := 25) (n := 2) (As := [.int a0, .int a1]) C (c_X12_daysTill C.2.2.2.2.2.2.1 a0 a1 S h1) tw_1139 tw_1141 tw_55 tw_82 tw_1142 (by decide +kernel) rfl (by decide : 41 < 56) rfl rfl hfr hlo hst rfl d (K _ _ h2)
set_option maxRecDepth 100000 in
theorem p_X12_meet_78 {X : jX} {D : va_G} {ad : Nat → Nat} {cy : Nat → ClassId} (C : jC X (jMain D ad cy) RX12 cX12_meet (some .int) 6 1 22) {z : Int32 × jS} (Q : jRet X (jMain D ad cy) (some (.int z.1), z.2)) {g : Int32 → Int32 → Int32 → Int32 → jS → Option (Int32 × jS)} (hg : ∀ (x1 : Int32) (x2 : Int32) (x3 : Int32) (x4 : Int32) (S : jS), g x1 x2 x3 x4 S = some z → jJ X (jMain D ad cy) 21 [(0, .ref (ad 41)), (1, .int x1), (2, .int x2), (3, .int x3), (4, .int x4)] [] S) {k85 : Int32 → Int32 → Int32 → jS → Option (Int32 × jS)} (hk85 : ∀ (x1 : Int32) (x2 : Int32) (x3 : Int32) (S : jS), k85 x1 x2 x3 S = some z → jJ X (jMain D ad cy) 85 [(0, .ref (ad 41)), (1, .int x1), (2, .int x2), (3, .int x3)] [] S) (a0 : Int32) (x1 : Int32) (x2 : Int32) (x4 : Int32) (S : jS) (hE : f_X12_meet_78 g k85 a0 x1 x2 x4 S = some z) : jJ X (jMain D ad cy) 78 [(0, .ref (ad 41)), (1, .int x1), (2, .int x2), (4, .int x4)] [.int a0] S := by
  unfold f_X12_meet_78 at hE
  refine j_istore_n (i := 3) (lv' := [(3, .int a0), (0, .ref (ad 41)), (1, .int x1), (2, .int x2), (4, .int x4)]) C dX12_meet_78 rfl (by decide) rfl ?_
  refine j_iinc (v := (x4 + 1)) (lv' := [(4, .int (x4 + 1)), (3, .int a0), (0, .ref (ad 41)), (1, .int x1), (2, .int x2)]) C dX12_meet_79 4 rfl (congrArg (fun w => x4 + w) jc_ic_1) (by decide) rfl ?_
  refine j_goto (tgt := 21) C dX12_meet_82 rfl ?_
  refine j_sub [2, 3, 4, 1, 0] rfl ?_
  exact hg x1 x2 a0 (x4 + 1) S hE
set_option maxRecDepth 100000 in
theorem p_X12_meet_65 {X : jX} {D : va_G} {ad : Nat → Nat} {cy : Nat → ClassId} (C : jC X (jMain D ad cy) RX12 cX12_meet (some .int) 6 1 22) {z : Int32 × jS} (Q : jRet X (jMain D ad cy) (some (.int z.1), z.2)) {g : Int32 → Int32 → Int32 → Int32 → jS → Option (Int32 × jS)} (hg : ∀ (x1 : Int32) (x2 : Int32) (x3 : Int32) (x4 : Int32) (S : jS), g x1 x2 x3 x4 S = some z → jJ X (jMain D ad cy) 21 [(0, .ref (ad 41)), (1, .int x1), (2, .int x2), (3, .int x3), (4, .int x4)] [] S) {k85 : Int32 → Int32 → Int32 → jS → Option (Int32 × jS)} (hk85 : ∀ (x1 : Int32) (x2 : Int32) (x3 : Int32) (S : jS), k85 x1 x2 x3 S = some z → jJ X (jMain D ad cy) 85 [(0, .ref (ad 41)), (1, .int x1), (2, .int x2), (3, .int x3)] [] S) (a0 : Int32) (x1 : Int32) (x3 : Int32) (x4 : Int32) (x5 : Int32) (S : jS) (hE : f_X12_meet_65 g k85 a0 x1 x3 x4 x5 S = some z) : jJ X (jMain D ad cy) 65 [(0, .ref (ad 41)), (1, .int x1), (3, .int x3), (4, .int x4), (5, .int x5)] [.int a0] S := by
  unfold f_X12_meet_65 at hE
  refine j_istore_n (i := 2) (lv' := [(2, .int a0), (0, .ref (ad 41)), (1, .int x1), (3, .int x3), (4, .int x4), (5, .int x5)]) C dX12_meet_65 rfl (by decide) rfl ?_
  refine j_iload C dX12_meet_66 5 rfl ?_
  refine j_iload_n C dX12_meet_68 3 rfl ?_
  refine j_icmp_le (tgt := 77) C dX12_meet_69 rfl hE (fun hE => ?_) (fun hE => ?_)
  · refine j_iload_n C dX12_meet_77 3 rfl ?_
    refine j_sub [1, 2, 0, 4] rfl ?_
    exact p_X12_meet_78 C Q hg hk85 x3 x1 a0 x4 S hE
  · refine j_iload C dX12_meet_72 5 rfl ?_
    refine j_goto (tgt := 78) C dX12_meet_74 rfl ?_
    refine j_sub [1, 2, 0, 4] rfl ?_
    exact p_X12_meet_78 C Q hg hk85 x5 x1 a0 x4 S hE
set_option maxRecDepth 100000 in
theorem p_X12_meet_64 {X : jX} {D : va_G} {ad : Nat → Nat} {cy : Nat → ClassId} (C : jC X (jMain D ad cy) RX12 cX12_meet (some .int) 6 1 22) {z : Int32 × jS} (Q : jRet X (jMain D ad cy) (some (.int z.1), z.2)) {g : Int32 → Int32 → Int32 → Int32 → jS → Option (Int32 × jS)} (hg : ∀ (x1 : Int32) (x2 : Int32) (x3 : Int32) (x4 : Int32) (S : jS), g x1 x2 x3 x4 S = some z → jJ X (jMain D ad cy) 21 [(0, .ref (ad 41)), (1, .int x1), (2, .int x2), (3, .int x3), (4, .int x4)] [] S) {k85 : Int32 → Int32 → Int32 → jS → Option (Int32 × jS)} (hk85 : ∀ (x1 : Int32) (x2 : Int32) (x3 : Int32) (S : jS), k85 x1 x2 x3 S = some z → jJ X (jMain D ad cy) 85 [(0, .ref (ad 41)), (1, .int x1), (2, .int x2), (3, .int x3)] [] S) (x1 : Int32) (x3 : Int32) (x4 : Int32) (x5 : Int32) (S : jS) (hE : f_X12_meet_64 g k85 x1 x3 x4 x5 S = some z) : jJ X (jMain D ad cy) 64 [(0, .ref (ad 41)), (1, .int x1), (3, .int x3), (4, .int x4), (5, .int x5)] [] S := by
  unfold f_X12_meet_64 at hE
  refine j_iconst (v := 0) C dX12_meet_64 jc_ic_0 ?_
  exact p_X12_meet_65 C Q hg hk85 0 x1 x3 x4 x5 S hE
set_option maxRecDepth 100000 in
theorem p_X12_meet_49 {X : jX} {D : va_G} {ad : Nat → Nat} {cy : Nat → ClassId} (C : jC X (jMain D ad cy) RX12 cX12_meet (some .int) 6 1 22) {z : Int32 × jS} (Q : jRet X (jMain D ad cy) (some (.int z.1), z.2)) {g : Int32 → Int32 → Int32 → Int32 → jS → Option (Int32 × jS)} (hg : ∀ (x1 : Int32) (x2 : Int32) (x3 : Int32) (x4 : Int32) (S : jS), g x1 x2 x3 x4 S = some z → jJ X (jMain D ad cy) 21 [(0, .ref (ad 41)), (1, .int x1), (2, .int x2), (3, .int x3), (4, .int x4)] [] S) {k85 : Int32 → Int32 → Int32 → jS → Option (Int32 × jS)} (hk85 : ∀ (x1 : Int32) (x2 : Int32) (x3 : Int32) (S : jS), k85 x1 x2 x3 S = some z → jJ X (jMain D ad cy) 85 [(0, .ref (ad 41)), (1, .int x1), (2, .int x2), (3, .int x3)] [] S) (a0 : Int32) (x1 : Int32) (x2 : Int32) (x3 : Int32) (x4 : Int32) (S : jS) (hE : f_X12_meet_49 g k85 a0 x1 x2 x3 x4 S = some z) : jJ X (jMain D ad cy) 49 [(0, .ref (ad 41)), (1, .int x1), (2, .int x2), (3, .int x3), (4, .int x4)] [.int a0] S := by
  unfold f_X12_meet_49 at hE
  refine j_istore (lv' := [(5, .int a0), (0, .ref (ad 41)), (1, .int x1), (2, .int x2), (3, .int x3), (4, .int x4)]) C dX12_meet_49 (by decide) rfl ?_
  refine j_iload_n C dX12_meet_51 3 rfl ?_
  refine j_if_eq (tgt := 64) C dX12_meet_52 rfl hE (fun hE => ?_) (fun hE => ?_)
  · refine j_sub [1, 2, 4, 5, 0] rfl ?_
    exact p_X12_meet_64 C Q hg hk85 x1 x3 x4 a0 S hE
  · refine j_iload C dX12_meet_55 0 rfl ?_
    refine j_if_ne (tgt := 64) C dX12_meet_57 rfl hE (fun hE => ?_) (fun hE => ?_)
    · refine j_sub [1, 2, 4, 5, 0] rfl ?_
      exact p_X12_meet_64 C Q hg hk85 x1 x3 x4 a0 S hE
    · refine j_iconst (v := 1) C dX12_meet_60 jc_ic_1 ?_
      refine j_goto (tgt := 65) C dX12_meet_61 rfl ?_
      refine j_sub [1, 2, 4, 5, 0] rfl ?_
      exact p_X12_meet_65 C Q hg hk85 1 x1 x3 x4 a0 S hE
set_option maxRecDepth 100000 in
theorem p_X12_meet_21 {X : jX} {D : va_G} {ad : Nat → Nat} {cy : Nat → ClassId} (C : jC X (jMain D ad cy) RX12 cX12_meet (some .int) 6 1 22) {z : Int32 × jS} (Q : jRet X (jMain D ad cy) (some (.int z.1), z.2)) {g : Int32 → Int32 → Int32 → Int32 → jS → Option (Int32 × jS)} (hg : ∀ (x1 : Int32) (x2 : Int32) (x3 : Int32) (x4 : Int32) (S : jS), g x1 x2 x3 x4 S = some z → jJ X (jMain D ad cy) 21 [(0, .ref (ad 41)), (1, .int x1), (2, .int x2), (3, .int x3), (4, .int x4)] [] S) {k85 : Int32 → Int32 → Int32 → jS → Option (Int32 × jS)} (hk85 : ∀ (x1 : Int32) (x2 : Int32) (x3 : Int32) (S : jS), k85 x1 x2 x3 S = some z → jJ X (jMain D ad cy) 85 [(0, .ref (ad 41)), (1, .int x1), (2, .int x2), (3, .int x3)] [] S) (x1 : Int32) (x2 : Int32) (x3 : Int32) (x4 : Int32) (S : jS) (hE : f_X12_meet_21 g k85 x1 x2 x3 x4 S = some z) : jJ X (jMain D ad cy) 21 [(0, .ref (ad 41)), (1, .int x1), (2, .int x2), (3, .int x3), (4, .int x4)] [] S := by
  unfold f_X12_meet_21 at hE
  refine j_iload C dX12_meet_21 4 rfl ?_
  refine j_bipush (v := 8) C dX12_meet_23 jc_bp_8 ?_
  refine j_icmp_ge (tgt := 85) C dX12_meet_25 rfl hE (fun hE => ?_) (fun hE => ?_)
  · refine j_sub [0, 1, 2, 3] rfl ?_
    exact hk85 x1 x2 x3 S hE
  · refine j_aload_n C dX12_meet_28 0 rfl ?_
    refine g_X12_7_41 C dX12_meet_29 ?_
    refine j_iload C dX12_meet_32 4 rfl ?_
    refine l_42 C dX12_meet_34 hE (fun v1 hE => ?_)
    refine j_if_le (tgt := 48) C dX12_meet_35 rfl hE (fun hE => ?_) (fun hE => ?_)
    · refine j_iconst (v := 0) C dX12_meet_48 jc_ic_0 ?_
      exact p_X12_meet_49 C Q hg hk85 0 x1 x2 x3 x4 S hE
    · refine j_aload_n C dX12_meet_38 0 rfl ?_
      refine j_iload C dX12_meet_39 4 rfl ?_
      refine j_iload_n C dX12_meet_41 1 rfl ?_
      refine k_X12_181_X12_daysTill C dX12_meet_42 hE (Nat.le_of_ble_eq_true rfl) (Nat.le_of_ble_eq_true rfl) (Nat.le_of_ble_eq_true rfl) (fun v3 S2 hE => ?_)
      refine j_goto (tgt := 49) C dX12_meet_45 rfl ?_
      exact p_X12_meet_49 C Q hg hk85 v3 x1 x2 x3 x4 S2 hE
theorem q_X12_meet_21 {X : jX} {D : va_G} {ad : Nat → Nat} {cy : Nat → ClassId} (C : jC X (jMain D ad cy) RX12 cX12_meet (some .int) 6 1 22) {z : Int32 × jS} (Q : jRet X (jMain D ad cy) (some (.int z.1), z.2)) {k85 : Int32 → Int32 → Int32 → jS → Option (Int32 × jS)} (hk85 : ∀ (x1 : Int32) (x2 : Int32) (x3 : Int32) (S : jS), k85 x1 x2 x3 S = some z → jJ X (jMain D ad cy) 85 [(0, .ref (ad 41)), (1, .int x1), (2, .int x2), (3, .int x3)] [] S) (x1 : Int32) (x2 : Int32) (x3 : Int32) (x4 : Int32) (S : jS) (hE : lp_X12_meet_21 k85 x1 x2 x3 x4 S = some z) : jJ X (jMain D ad cy) 21 [(0, .ref (ad 41)), (1, .int x1), (2, .int x2), (3, .int x3), (4, .int x4)] [] S :=
  jloop_P (α := Int32 × Int32 × Int32 × Int32 × jS) (B := (fun g q => f_X12_meet_21 (fun x1 x2 x3 x4 S => g (x1, x2, x3, x4, S)) k85 q.1 q.2.1 q.2.2.1 q.2.2.2.1 q.2.2.2.2)) (P := fun q => jJ X (jMain D ad cy) 21 [(0, .ref (ad 41)), (1, .int q.1), (2, .int q.2.1), (3, .int q.2.2.1), (4, .int q.2.2.2.1)] [] q.2.2.2.2) (fun g q hg h => p_X12_meet_21 C Q (g := fun x1 x2 x3 x4 S => g (x1, x2, x3, x4, S)) (fun x1 x2 x3 x4 S h => hg (x1, x2, x3, x4, S) h) hk85 q.1 q.2.1 q.2.2.1 q.2.2.2.1 q.2.2.2.2 h) jN (x1, x2, x3, x4, S) hE
set_option maxRecDepth 100000 in
theorem p_X12_meet_85 {X : jX} {D : va_G} {ad : Nat → Nat} {cy : Nat → ClassId} (C : jC X (jMain D ad cy) RX12 cX12_meet (some .int) 6 1 22) {z : Int32 × jS} (Q : jRet X (jMain D ad cy) (some (.int z.1), z.2)) {g : Int32 → Int32 → jS → Option (Int32 × jS)} (hg : ∀ (x1 : Int32) (x2 : Int32) (S : jS), g x1 x2 S = some z → jJ X (jMain D ad cy) 4 [(0, .ref (ad 41)), (1, .int x1), (2, .int x2)] [] S) {k92 : Int32 → Int32 → jS → Option (Int32 × jS)} (hk92 : ∀ (x1 : Int32) (x2 : Int32) (S : jS), k92 x1 x2 S = some z → jJ X (jMain D ad cy) 92 [(1, .int x1), (2, .int x2)] [] S) (x1 : Int32) (x2 : Int32) (x3 : Int32) (S : jS) (hE : f_X12_meet_85 g k92 x1 x2 x3 S = some z) : jJ X (jMain D ad cy) 85 [(0, .ref (ad 41)), (1, .int x1), (2, .int x2), (3, .int x3)] [] S := by
  unfold f_X12_meet_85 at hE
  refine j_iload_n C dX12_meet_85 1 rfl ?_
  refine j_iload_n C dX12_meet_86 3 rfl ?_
  refine j_iadd C dX12_meet_87 ?_
  refine j_istore_n (i := 1) (lv' := [(1, .int (x1 + x3)), (0, .ref (ad 41)), (2, .int x2), (3, .int x3)]) C dX12_meet_88 rfl (by decide) rfl ?_
  refine j_goto (tgt := 4) C dX12_meet_89 rfl ?_
  refine j_sub [1, 0, 2] rfl ?_
  exact hg (x1 + x3) x2 S hE
set_option maxRecDepth 100000 in
theorem p_X12_meet_4 {X : jX} {D : va_G} {ad : Nat → Nat} {cy : Nat → ClassId} (C : jC X (jMain D ad cy) RX12 cX12_meet (some .int) 6 1 22) {z : Int32 × jS} (Q : jRet X (jMain D ad cy) (some (.int z.1), z.2)) {g : Int32 → Int32 → jS → Option (Int32 × jS)} (hg : ∀ (x1 : Int32) (x2 : Int32) (S : jS), g x1 x2 S = some z → jJ X (jMain D ad cy) 4 [(0, .ref (ad 41)), (1, .int x1), (2, .int x2)] [] S) {k92 : Int32 → Int32 → jS → Option (Int32 × jS)} (hk92 : ∀ (x1 : Int32) (x2 : Int32) (S : jS), k92 x1 x2 S = some z → jJ X (jMain D ad cy) 92 [(1, .int x1), (2, .int x2)] [] S) (x1 : Int32) (x2 : Int32) (S : jS) (hE : f_X12_meet_4 g k92 x1 x2 S = some z) : jJ X (jMain D ad cy) 4 [(0, .ref (ad 41)), (1, .int x1), (2, .int x2)] [] S := by
  unfold f_X12_meet_4 at hE
  refine j_iload_n C dX12_meet_4 1 rfl ?_
  refine j_ldc (v := 100000) C dX12_meet_5 tw_1138 ?_
  refine j_icmp_ge (tgt := 92) C dX12_meet_7 rfl hE (fun hE => ?_) (fun hE => ?_)
  · refine j_sub [1, 2] rfl ?_
    exact hk92 x1 x2 S hE
  · refine j_iload_n C dX12_meet_10 2 rfl ?_
    refine j_if_ne (tgt := 92) C dX12_meet_11 rfl hE (fun hE => ?_) (fun hE => ?_)
    · refine j_sub [1, 2] rfl ?_
      exact hk92 x1 x2 S hE
    · refine j_iconst (v := 1) C dX12_meet_14 jc_ic_1 ?_
      refine j_istore_n (i := 2) (lv' := [(2, .int 1), (0, .ref (ad 41)), (1, .int x1)]) C dX12_meet_15 rfl (by decide) rfl ?_
      refine j_iconst (v := 0) C dX12_meet_16 jc_ic_0 ?_
      refine j_istore_n (i := 3) (lv' := [(3, .int 0), (2, .int 1), (0, .ref (ad 41)), (1, .int x1)]) C dX12_meet_17 rfl (by decide) rfl ?_
      refine j_iconst (v := 0) C dX12_meet_18 jc_ic_0 ?_
      refine j_istore (lv' := [(4, .int 0), (3, .int 0), (2, .int 1), (0, .ref (ad 41)), (1, .int x1)]) C dX12_meet_19 (by decide) rfl ?_
      refine j_sub [3, 4, 2, 1, 0] rfl ?_
      exact q_X12_meet_21 C Q (p_X12_meet_85 C Q hg hk92) x1 1 0 0 S hE
theorem q_X12_meet_4 {X : jX} {D : va_G} {ad : Nat → Nat} {cy : Nat → ClassId} (C : jC X (jMain D ad cy) RX12 cX12_meet (some .int) 6 1 22) {z : Int32 × jS} (Q : jRet X (jMain D ad cy) (some (.int z.1), z.2)) {k92 : Int32 → Int32 → jS → Option (Int32 × jS)} (hk92 : ∀ (x1 : Int32) (x2 : Int32) (S : jS), k92 x1 x2 S = some z → jJ X (jMain D ad cy) 92 [(1, .int x1), (2, .int x2)] [] S) (x1 : Int32) (x2 : Int32) (S : jS) (hE : lp_X12_meet_4 k92 x1 x2 S = some z) : jJ X (jMain D ad cy) 4 [(0, .ref (ad 41)), (1, .int x1), (2, .int x2)] [] S :=
  jloop_P (α := Int32 × Int32 × jS) (B := (fun g q => f_X12_meet_4 (fun x1 x2 S => g (x1, x2, S)) k92 q.1 q.2.1 q.2.2)) (P := fun q => jJ X (jMain D ad cy) 4 [(0, .ref (ad 41)), (1, .int q.1), (2, .int q.2.1)] [] q.2.2) (fun g q hg h => p_X12_meet_4 C Q (g := fun x1 x2 S => g (x1, x2, S)) (fun x1 x2 S h => hg (x1, x2, S) h) hk92 q.1 q.2.1 q.2.2 h) jN (x1, x2, S) hE
set_option maxRecDepth 100000 in
theorem p_X12_meet_107 {X : jX} {D : va_G} {ad : Nat → Nat} {cy : Nat → ClassId} (C : jC X (jMain D ad cy) RX12 cX12_meet (some .int) 6 1 22) {z : Int32 × jS} (Q : jRet X (jMain D ad cy) (some (.int z.1), z.2))  (a0 : Int32) (S : jS) (hE : f_X12_meet_107  a0 S = some z) : jJ X (jMain D ad cy) 107 [] [.int a0] S := by
  unfold f_X12_meet_107 at hE
  exact j_iret C Q dX12_meet_107 hE
set_option maxRecDepth 100000 in
theorem p_X12_meet_106 {X : jX} {D : va_G} {ad : Nat → Nat} {cy : Nat → ClassId} (C : jC X (jMain D ad cy) RX12 cX12_meet (some .int) 6 1 22) {z : Int32 × jS} (Q : jRet X (jMain D ad cy) (some (.int z.1), z.2))   (S : jS) (hE : f_X12_meet_106   S = some z) : jJ X (jMain D ad cy) 106 [] [] S := by
  unfold f_X12_meet_106 at hE
  refine j_iconst (v := (-1)) C dX12_meet_106 jc_ic_m1 ?_
  exact p_X12_meet_107 C Q  (-1) S hE
set_option maxRecDepth 100000 in
theorem p_X12_meet_92 {X : jX} {D : va_G} {ad : Nat → Nat} {cy : Nat → ClassId} (C : jC X (jMain D ad cy) RX12 cX12_meet (some .int) 6 1 22) {z : Int32 × jS} (Q : jRet X (jMain D ad cy) (some (.int z.1), z.2))  (x1 : Int32) (x2 : Int32) (S : jS) (hE : f_X12_meet_92  x1 x2 S = some z) : jJ X (jMain D ad cy) 92 [(1, .int x1), (2, .int x2)] [] S := by
  unfold f_X12_meet_92 at hE
  refine j_iload_n C dX12_meet_92 1 rfl ?_
  refine j_if_eq (tgt := 106) C dX12_meet_93 rfl hE (fun hE => ?_) (fun hE => ?_)
  · refine j_sub [] rfl ?_
    exact p_X12_meet_106 C Q   S hE
  · refine j_iload_n C dX12_meet_96 0 rfl ?_
    refine j_ldc (v := 100000) C dX12_meet_97 tw_1138 ?_
    refine j_icmp_ge (tgt := 106) C dX12_meet_99 rfl hE (fun hE => ?_) (fun hE => ?_)
    · refine j_sub [] rfl ?_
      exact p_X12_meet_106 C Q   S hE
    · refine j_iload_n C dX12_meet_102 0 rfl ?_
      refine j_goto (tgt := 107) C dX12_meet_103 rfl ?_
      refine j_sub [] rfl ?_
      exact p_X12_meet_107 C Q  x1 S hE
set_option maxRecDepth 100000 in
theorem p_X12_meet_e {X : jX} {D : va_G} {ad : Nat → Nat} {cy : Nat → ClassId} (C : jC X (jMain D ad cy) RX12 cX12_meet (some .int) 6 1 22) {z : Int32 × jS} (Q : jRet X (jMain D ad cy) (some (.int z.1), z.2))   (S : jS) (hE : f_X12_meet_e   S = some z) : jJ X (jMain D ad cy) 0 [(0, .ref (ad 41))] [] S := by
  unfold f_X12_meet_e at hE
  refine j_iconst (v := 0) C dX12_meet_0 jc_ic_0 ?_
  refine j_istore_n (i := 1) (lv' := [(1, .int 0), (0, .ref (ad 41))]) C dX12_meet_1 rfl (by decide) rfl ?_
  refine j_iconst (v := 0) C dX12_meet_2 jc_ic_0 ?_
  refine j_istore_n (i := 2) (lv' := [(2, .int 0), (1, .int 0), (0, .ref (ad 41))]) C dX12_meet_3 rfl (by decide) rfl ?_
  refine j_sub [2, 1, 0] rfl ?_
  exact q_X12_meet_4 C Q (p_X12_meet_92 C Q ) 0 0 S hE
theorem c_X12_meet {l : Launch} {D : va_G} {ad : Nat → Nat} {cy : Nat → ClassId} (hO : jOk (jMain D ad cy))  (S : jS) {z : Int32 × jS} (hz : f_X12_meet  S = some z) : Met l yX12_meet (.code yX12_meet cX12_meet 6 (some .int) :: jT) { frames := 1, cells := 0, slots := 0, locals := 22 } (va_Pc [.ref (ad 41)] (jInv (jMain D ad cy) S)) (jQ (jMain D ad cy) (some (.int z.1), z.2)) 0 0 (yA (jMain D ad cy)) :=
  jMet hO (by decide +kernel) rfl (Nat.le_of_ble_eq_true rfl) (fun X _ C Q => p_X12_meet_e C Q  S hz)
set_option maxRecDepth 100000 in
theorem p_X11_isThere_22 {X : jX} {D : va_G} {ad : Nat → Nat} {cy : Nat → ClassId} (C : jC X (jMain D ad cy) RX11 cX11_isThere (some .boolean) 3 0 0) {z : Int32 × jS} (Q : jRet X (jMain D ad cy) (some (.int z.1), z.2))  (a0 : Int32) (S : jS) (hE : f_X11_isThere_22  a0 S = some z) : jJ X (jMain D ad cy) 22 [] [.int a0] S := by
  unfold f_X11_isThere_22 at hE
  exact j_zret C Q dX11_isThere_22 hE
set_option maxRecDepth 100000 in
theorem p_X11_isThere_21 {X : jX} {D : va_G} {ad : Nat → Nat} {cy : Nat → ClassId} (C : jC X (jMain D ad cy) RX11 cX11_isThere (some .boolean) 3 0 0) {z : Int32 × jS} (Q : jRet X (jMain D ad cy) (some (.int z.1), z.2))   (S : jS) (hE : f_X11_isThere_21   S = some z) : jJ X (jMain D ad cy) 21 [] [] S := by
  unfold f_X11_isThere_21 at hE
  refine j_iconst (v := 0) C dX11_isThere_21 jc_ic_0 ?_
  exact p_X11_isThere_22 C Q  0 S hE
set_option maxRecDepth 100000 in
theorem p_X11_isThere_e {X : jX} {D : va_G} {ad : Nat → Nat} {cy : Nat → ClassId} (C : jC X (jMain D ad cy) RX11 cX11_isThere (some .boolean) 3 0 0) {z : Int32 × jS} (Q : jRet X (jMain D ad cy) (some (.int z.1), z.2))  (x0 : Int32) (x1 : Int32) (x2 : Int32) (S : jS) (hE : f_X11_isThere_e  x0 x1 x2 S = some z) : jJ X (jMain D ad cy) 0 [(0, .int x0), (1, .int x1), (2, .int x2)] [] S := by
  unfold f_X11_isThere_e at hE
  refine j_iload_n C dX11_isThere_0 0 rfl ?_
  refine j_iload_n C dX11_isThere_1 1 rfl ?_
  refine j_icmp_lt (tgt := 21) C dX11_isThere_2 rfl hE (fun hE => ?_) (fun hE => ?_)
  · refine j_sub [] rfl ?_
    exact p_X11_isThere_21 C Q   S hE
  · refine j_iload_n C dX11_isThere_5 2 rfl ?_
    refine j_if_le (tgt := 21) C dX11_isThere_6 rfl hE (fun hE => ?_) (fun hE => ?_)
    · refine j_sub [] rfl ?_
      exact p_X11_isThere_21 C Q   S hE
    · refine j_iload_n C dX11_isThere_9 0 rfl ?_
      refine j_iload_n C dX11_isThere_10 1 rfl ?_
      refine j_isub C dX11_isThere_11 ?_
      refine j_iload_n C dX11_isThere_12 2 rfl ?_
      refine j_irem C dX11_isThere_13 hE (fun v1 hE => ?_)
      refine j_if_ne (tgt := 21) C dX11_isThere_14 rfl hE (fun hE => ?_) (fun hE => ?_)
      · refine j_sub [] rfl ?_
        exact p_X11_isThere_21 C Q   S hE
      · refine j_iconst (v := 1) C dX11_isThere_17 jc_ic_1 ?_
        refine j_goto (tgt := 22) C dX11_isThere_18 rfl ?_
        refine j_sub [] rfl ?_
        exact p_X11_isThere_22 C Q  1 S hE
theorem c_X11_isThere {l : Launch} {D : va_G} {ad : Nat → Nat} {cy : Nat → ClassId} (hO : jOk (jMain D ad cy)) (x0 : Int32) (x1 : Int32) (x2 : Int32) (S : jS) {z : Int32 × jS} (hz : f_X11_isThere x0 x1 x2 S = some z) : Met l yX11_isThere (.code yX11_isThere cX11_isThere 3 (some .boolean) :: jT) { frames := 0, cells := 0, slots := 0, locals := 0 } (va_Pc [.int x0, .int x1, .int x2] (jInv (jMain D ad cy) S)) (jQ (jMain D ad cy) (some (.int z.1), z.2)) 0 0 (yA (jMain D ad cy)) :=
  jMet hO (by decide +kernel) rfl (Nat.le_of_ble_eq_true rfl) (fun X _ C Q => p_X11_isThere_e C Q x0 x1 x2 S hz)
theorem k_X11_299_X11_isThere {X : jX} {D : va_G} {ad : Nat → Nat} {cy : Nat → ClassId} {cc : ByteArray} {ret : Option FieldType} {nL fr lo pc : Nat} {lv : List (Nat × Value)} {st : List Value} {S : jS} {β : Type} {z : β} (C : jC X (jMain D ad cy) RX11 cc ret nL fr lo) {a0 : Int32} {a1 : Int32} {a2 : Int32} {E : Int32 → jS → Option β} (d : decode cc pc = .ok (.invokestatic 299, 3)) (hE : jcl (f_X11_isThere a0 a1 a2 S) E = some z) (hfr : 1 ≤ fr) (hlo : 22 ≤ lo) (hst : (st.map fun v => v.category).sum ≤ 8) (K : ∀ (v : Int32) (S1 : jS), E v S1 = some z → jJ X (jMain D ad cy) (pc + 3) lv (.int v :: st) S1) : jJ X (jMain D ad cy) pc lv (.int a2 :: .int a1 :: .int a0 :: st) S := by
  obtain ⟨v, h1, h2⟩ := jcl_some hE
  exact j_callS (n := 3) (As := [.int a0, .int a1, .int a2]) C (c_X11_isThere C.2.2.2.2.2.2.1 a0 a1 a2 S h1) tw_724 tw_725 tw_70 tw_726 (by decide +kernel) rfl hfr hlo hst rfl d (K _ _ h2)
set_option maxRecDepth 100000 in
theorem p_X11_firstShared_6 {X : jX} {D : va_G} {ad : Nat → Nat} {cy : Nat → ClassId} (C : jC X (jMain D ad cy) RX11 cX11_firstShared (some .int) 6 1 22) {z : Int32 × jS} (Q : jRet X (jMain D ad cy) (some (.int z.1), z.2)) {g : Int32 → Int32 → Int32 → Int32 → Int32 → jS → Option (Int32 × jS)} (hg : ∀ (x1 : Int32) (x2 : Int32) (x3 : Int32) (x4 : Int32) (x5 : Int32) (S : jS), g x1 x2 x3 x4 x5 S = some z → jJ X (jMain D ad cy) 6 [(1, .int x1), (2, .int x2), (3, .int x3), (4, .int x4), (5, .int x5)] [] S) {k42 : Int32 → jS → Option (Int32 × jS)} (hk42 : ∀ (x4 : Int32) (S : jS), k42 x4 S = some z → jJ X (jMain D ad cy) 42 [(4, .int x4)] [] S) (x1 : Int32) (x2 : Int32) (x3 : Int32) (x4 : Int32) (x5 : Int32) (S : jS) (hE : f_X11_firstShared_6 g k42 x1 x2 x3 x4 x5 S = some z) : jJ X (jMain D ad cy) 6 [(1, .int x1), (2, .int x2), (3, .int x3), (4, .int x4), (5, .int x5)] [] S := by
  unfold f_X11_firstShared_6 at hE
  refine j_iload C dX11_firstShared_6 4 rfl ?_
  refine j_ldc (v := 99999) C dX11_firstShared_8 tw_723 ?_
  refine j_icmp_gt (tgt := 42) C dX11_firstShared_10 rfl hE (fun hE => ?_) (fun hE => ?_)
  · refine j_sub [3] rfl ?_
    exact hk42 x4 S hE
  · refine j_iload C dX11_firstShared_13 3 rfl ?_
    refine j_ldc (v := 99999) C dX11_firstShared_15 tw_723 ?_
    refine j_icmp_gt (tgt := 42) C dX11_firstShared_17 rfl hE (fun hE => ?_) (fun hE => ?_)
    · refine j_sub [3] rfl ?_
      exact hk42 x4 S hE
    · refine j_iload C dX11_firstShared_20 3 rfl ?_
      refine j_iload_n C dX11_firstShared_22 1 rfl ?_
      refine j_iload_n C dX11_firstShared_23 2 rfl ?_
      refine k_X11_299_X11_isThere C dX11_firstShared_24 hE (Nat.le_of_ble_eq_true rfl) (Nat.le_of_ble_eq_true rfl) (Nat.le_of_ble_eq_true rfl) (fun v2 S1 hE => ?_)
      refine j_if_ne (tgt := 42) C dX11_firstShared_27 rfl hE (fun hE => ?_) (fun hE => ?_)
      · refine j_sub [3] rfl ?_
        exact hk42 x4 S1 hE
      · refine j_iload C dX11_firstShared_30 3 rfl ?_
        refine j_iload_n C dX11_firstShared_32 0 rfl ?_
        refine j_iadd C dX11_firstShared_33 ?_
        refine j_istore (lv' := [(4, .int (x4 + x1)), (1, .int x1), (2, .int x2), (3, .int x3), (5, .int x5)]) C dX11_firstShared_34 (by decide) rfl ?_
        refine j_iinc (v := (x5 + 1)) (lv' := [(5, .int (x5 + 1)), (4, .int (x4 + x1)), (1, .int x1), (2, .int x2), (3, .int x3)]) C dX11_firstShared_36 4 rfl (congrArg (fun w => x5 + w) jc_ic_1) (by decide) rfl ?_
        refine j_goto (tgt := 6) C dX11_firstShared_39 rfl ?_
        refine j_sub [2, 3, 4, 1, 0] rfl ?_
        exact hg x1 x2 x3 (x4 + x1) (x5 + 1) S1 hE
theorem q_X11_firstShared_6 {X : jX} {D : va_G} {ad : Nat → Nat} {cy : Nat → ClassId} (C : jC X (jMain D ad cy) RX11 cX11_firstShared (some .int) 6 1 22) {z : Int32 × jS} (Q : jRet X (jMain D ad cy) (some (.int z.1), z.2)) {k42 : Int32 → jS → Option (Int32 × jS)} (hk42 : ∀ (x4 : Int32) (S : jS), k42 x4 S = some z → jJ X (jMain D ad cy) 42 [(4, .int x4)] [] S) (x1 : Int32) (x2 : Int32) (x3 : Int32) (x4 : Int32) (x5 : Int32) (S : jS) (hE : lp_X11_firstShared_6 k42 x1 x2 x3 x4 x5 S = some z) : jJ X (jMain D ad cy) 6 [(1, .int x1), (2, .int x2), (3, .int x3), (4, .int x4), (5, .int x5)] [] S :=
  jloop_P (α := Int32 × Int32 × Int32 × Int32 × Int32 × jS) (B := (fun g q => f_X11_firstShared_6 (fun x1 x2 x3 x4 x5 S => g (x1, x2, x3, x4, x5, S)) k42 q.1 q.2.1 q.2.2.1 q.2.2.2.1 q.2.2.2.2.1 q.2.2.2.2.2)) (P := fun q => jJ X (jMain D ad cy) 6 [(1, .int q.1), (2, .int q.2.1), (3, .int q.2.2.1), (4, .int q.2.2.2.1), (5, .int q.2.2.2.2.1)] [] q.2.2.2.2.2) (fun g q hg h => p_X11_firstShared_6 C Q (g := fun x1 x2 x3 x4 x5 S => g (x1, x2, x3, x4, x5, S)) (fun x1 x2 x3 x4 x5 S h => hg (x1, x2, x3, x4, x5, S) h) hk42 q.1 q.2.1 q.2.2.1 q.2.2.2.1 q.2.2.2.2.1 q.2.2.2.2.2 h) jN (x1, x2, x3, x4, x5, S) hE
set_option maxRecDepth 100000 in
theorem p_X11_firstShared_42 {X : jX} {D : va_G} {ad : Nat → Nat} {cy : Nat → ClassId} (C : jC X (jMain D ad cy) RX11 cX11_firstShared (some .int) 6 1 22) {z : Int32 × jS} (Q : jRet X (jMain D ad cy) (some (.int z.1), z.2))  (x4 : Int32) (S : jS) (hE : f_X11_firstShared_42  x4 S = some z) : jJ X (jMain D ad cy) 42 [(4, .int x4)] [] S := by
  unfold f_X11_firstShared_42 at hE
  refine j_iload C dX11_firstShared_42 0 rfl ?_
  exact j_iret C Q dX11_firstShared_44 hE
set_option maxRecDepth 100000 in
theorem p_X11_firstShared_e {X : jX} {D : va_G} {ad : Nat → Nat} {cy : Nat → ClassId} (C : jC X (jMain D ad cy) RX11 cX11_firstShared (some .int) 6 1 22) {z : Int32 × jS} (Q : jRet X (jMain D ad cy) (some (.int z.1), z.2))  (x0 : Int32) (x1 : Int32) (x2 : Int32) (x3 : Int32) (S : jS) (hE : f_X11_firstShared_e  x0 x1 x2 x3 S = some z) : jJ X (jMain D ad cy) 0 [(0, .int x0), (1, .int x1), (2, .int x2), (3, .int x3)] [] S := by
  unfold f_X11_firstShared_e at hE
  refine j_iload_n C dX11_firstShared_0 0 rfl ?_
  refine j_istore (lv' := [(4, .int x0), (0, .int x0), (1, .int x1), (2, .int x2), (3, .int x3)]) C dX11_firstShared_1 (by decide) rfl ?_
  refine j_iconst (v := 0) C dX11_firstShared_3 jc_ic_0 ?_
  refine j_istore (lv' := [(5, .int 0), (4, .int x0), (0, .int x0), (1, .int x1), (2, .int x2), (3, .int x3)]) C dX11_firstShared_4 (by decide) rfl ?_
  refine j_sub [3, 4, 5, 1, 0] rfl ?_
  exact q_X11_firstShared_6 C Q (p_X11_firstShared_42 C Q ) x1 x2 x3 x0 0 S hE
theorem c_X11_firstShared {l : Launch} {D : va_G} {ad : Nat → Nat} {cy : Nat → ClassId} (hO : jOk (jMain D ad cy)) (x0 : Int32) (x1 : Int32) (x2 : Int32) (x3 : Int32) (S : jS) {z : Int32 × jS} (hz : f_X11_firstShared x0 x1 x2 x3 S = some z) : Met l yX11_firstShared (.code yX11_firstShared cX11_firstShared 6 (some .int) :: jT) { frames := 1, cells := 0, slots := 0, locals := 22 } (va_Pc [.int x0, .int x1, .int x2, .int x3] (jInv (jMain D ad cy) S)) (jQ (jMain D ad cy) (some (.int z.1), z.2)) 0 0 (yA (jMain D ad cy)) :=
  jMet hO (by decide +kernel) rfl (Nat.le_of_ble_eq_true rfl) (fun X _ C Q => p_X11_firstShared_e C Q x0 x1 x2 x3 S hz)
theorem k_X11_200_X11_firstShared {X : jX} {D : va_G} {ad : Nat → Nat} {cy : Nat → ClassId} {cc : ByteArray} {ret : Option FieldType} {nL fr lo pc : Nat} {lv : List (Nat × Value)} {st : List Value} {S : jS} {β : Type} {z : β} (C : jC X (jMain D ad cy) RX11 cc ret nL fr lo) {a0 : Int32} {a1 : Int32} {a2 : Int32} {a3 : Int32} {E : Int32 → jS → Option β} (d : decode cc pc = .ok (.invokestatic 200, 3)) (hE : jcl (f_X11_firstShared a0 a1 a2 a3 S) E = some z) (hfr : 2 ≤ fr) (hlo : 47 ≤ lo) (hst : (st.map fun v => v.category).sum ≤ 8) (K : ∀ (v : Int32) (S1 : jS), E v S1 = some z → jJ X (jMain D ad cy) (pc + 3) lv (.int v :: st) S1) : jJ X (jMain D ad cy) pc lv (.int a3 :: .int a2 :: .int a1 :: .int a0 :: st) S := by
  obtain ⟨v, h1, h2⟩ := jcl_some hE
  exact j_callS (n := 4) (As := [.int a0, .int a1, .int a2, .int a3]) C (c_X11_firstShared C.2.2.2.2.2.2.1 a0 a1 a2 a3 S h1) tw_720 tw_721 tw_70 tw_722 (by decide +kernel) rfl hfr hlo hst rfl d (K _ _ h2)
set_option maxRecDepth 100000 in
theorem p_X11_commonDivisor_9 {X : jX} {D : va_G} {ad : Nat → Nat} {cy : Nat → ClassId} (C : jC X (jMain D ad cy) RX11 cX11_commonDivisor (some .long) 11 0 0) {z : Int64 × jS} (Q : jRet X (jMain D ad cy) (some (.long z.1), z.2)) {g : Int64 → Int64 → Int32 → jS → Option (Int64 × jS)} (hg : ∀ (x4 : Int64) (x6 : Int64) (x8 : Int32) (S : jS), g x4 x6 x8 S = some z → jJ X (jMain D ad cy) 9 [(4, .long x4), (6, .long x6), (8, .int x8)] [] S) {k44 : Int64 → jS → Option (Int64 × jS)} (hk44 : ∀ (x4 : Int64) (S : jS), k44 x4 S = some z → jJ X (jMain D ad cy) 44 [(4, .long x4)] [] S) (x4 : Int64) (x6 : Int64) (x8 : Int32) (S : jS) (hE : f_X11_commonDivisor_9 g k44 x4 x6 x8 S = some z) : jJ X (jMain D ad cy) 9 [(4, .long x4), (6, .long x6), (8, .int x8)] [] S := by
  unfold f_X11_commonDivisor_9 at hE
  refine j_iload C dX11_commonDivisor_9 2 rfl ?_
  refine j_bipush (v := 100) C dX11_commonDivisor_11 jc_bp_100 ?_
  refine j_icmp_ge (tgt := 44) C dX11_commonDivisor_13 rfl hE (fun hE => ?_) (fun hE => ?_)
  · refine j_sub [0] rfl ?_
    exact hk44 x4 S hE
  · refine j_lload C dX11_commonDivisor_16 1 rfl ?_
    refine j_lconst (v := 0) C dX11_commonDivisor_18 jc_lc_0 ?_
    refine j_lcmp C dX11_commonDivisor_19 ?_
    refine j_if_eq (tgt := 44) C dX11_commonDivisor_20 rfl hE (fun hE => ?_) (fun hE => ?_)
    · refine j_sub [0] rfl ?_
      exact hk44 x4 S hE
    · refine j_lload C dX11_commonDivisor_23 0 rfl ?_
      refine j_lload C dX11_commonDivisor_25 1 rfl ?_
      refine j_lrem C dX11_commonDivisor_27 hE (fun v1 hE => ?_)
      refine j_lstore (lv' := [(9, .long v1), (4, .long x4), (6, .long x6), (8, .int x8)]) C dX11_commonDivisor_28 (by decide) rfl ?_
      refine j_lload C dX11_commonDivisor_30 2 rfl ?_
      refine j_lstore (lv' := [(4, .long x6), (9, .long v1), (6, .long x6), (8, .int x8)]) C dX11_commonDivisor_32 (by decide) rfl ?_
      refine j_lload C dX11_commonDivisor_34 1 rfl ?_
      refine j_lstore (lv' := [(6, .long v1), (4, .long x6), (9, .long v1), (8, .int x8)]) C dX11_commonDivisor_36 (by decide) rfl ?_
      refine j_iinc (v := (x8 + 1)) (lv' := [(8, .int (x8 + 1)), (6, .long v1), (4, .long x6), (9, .long v1)]) C dX11_commonDivisor_38 3 rfl (congrArg (fun w => x8 + w) jc_ic_1) (by decide) rfl ?_
      refine j_goto (tgt := 9) C dX11_commonDivisor_41 rfl ?_
      refine j_sub [2, 1, 0] rfl ?_
      exact hg x6 v1 (x8 + 1) S hE
theorem q_X11_commonDivisor_9 {X : jX} {D : va_G} {ad : Nat → Nat} {cy : Nat → ClassId} (C : jC X (jMain D ad cy) RX11 cX11_commonDivisor (some .long) 11 0 0) {z : Int64 × jS} (Q : jRet X (jMain D ad cy) (some (.long z.1), z.2)) {k44 : Int64 → jS → Option (Int64 × jS)} (hk44 : ∀ (x4 : Int64) (S : jS), k44 x4 S = some z → jJ X (jMain D ad cy) 44 [(4, .long x4)] [] S) (x4 : Int64) (x6 : Int64) (x8 : Int32) (S : jS) (hE : lp_X11_commonDivisor_9 k44 x4 x6 x8 S = some z) : jJ X (jMain D ad cy) 9 [(4, .long x4), (6, .long x6), (8, .int x8)] [] S :=
  jloop_P (α := Int64 × Int64 × Int32 × jS) (B := (fun g q => f_X11_commonDivisor_9 (fun x4 x6 x8 S => g (x4, x6, x8, S)) k44 q.1 q.2.1 q.2.2.1 q.2.2.2)) (P := fun q => jJ X (jMain D ad cy) 9 [(4, .long q.1), (6, .long q.2.1), (8, .int q.2.2.1)] [] q.2.2.2) (fun g q hg h => p_X11_commonDivisor_9 C Q (g := fun x4 x6 x8 S => g (x4, x6, x8, S)) (fun x4 x6 x8 S h => hg (x4, x6, x8, S) h) hk44 q.1 q.2.1 q.2.2.1 q.2.2.2 h) jN (x4, x6, x8, S) hE
set_option maxRecDepth 100000 in
theorem p_X11_commonDivisor_44 {X : jX} {D : va_G} {ad : Nat → Nat} {cy : Nat → ClassId} (C : jC X (jMain D ad cy) RX11 cX11_commonDivisor (some .long) 11 0 0) {z : Int64 × jS} (Q : jRet X (jMain D ad cy) (some (.long z.1), z.2))  (x4 : Int64) (S : jS) (hE : f_X11_commonDivisor_44  x4 S = some z) : jJ X (jMain D ad cy) 44 [(4, .long x4)] [] S := by
  unfold f_X11_commonDivisor_44 at hE
  refine j_lload C dX11_commonDivisor_44 0 rfl ?_
  exact j_lret C Q dX11_commonDivisor_46 hE
set_option maxRecDepth 100000 in
theorem p_X11_commonDivisor_e {X : jX} {D : va_G} {ad : Nat → Nat} {cy : Nat → ClassId} (C : jC X (jMain D ad cy) RX11 cX11_commonDivisor (some .long) 11 0 0) {z : Int64 × jS} (Q : jRet X (jMain D ad cy) (some (.long z.1), z.2))  (x0 : Int64) (x2 : Int64) (S : jS) (hE : f_X11_commonDivisor_e  x0 x2 S = some z) : jJ X (jMain D ad cy) 0 [(0, .long x0), (2, .long x2)] [] S := by
  unfold f_X11_commonDivisor_e at hE
  refine j_lload_n C dX11_commonDivisor_0 0 rfl ?_
  refine j_lstore (lv' := [(4, .long x0), (0, .long x0), (2, .long x2)]) C dX11_commonDivisor_1 (by decide) rfl ?_
  refine j_lload_n C dX11_commonDivisor_3 2 rfl ?_
  refine j_lstore (lv' := [(6, .long x2), (4, .long x0), (0, .long x0), (2, .long x2)]) C dX11_commonDivisor_4 (by decide) rfl ?_
  refine j_iconst (v := 0) C dX11_commonDivisor_6 jc_ic_0 ?_
  refine j_istore (lv' := [(8, .int 0), (6, .long x2), (4, .long x0), (0, .long x0), (2, .long x2)]) C dX11_commonDivisor_7 (by decide) rfl ?_
  refine j_sub [2, 1, 0] rfl ?_
  exact q_X11_commonDivisor_9 C Q (p_X11_commonDivisor_44 C Q ) x0 x2 0 S hE
theorem c_X11_commonDivisor {l : Launch} {D : va_G} {ad : Nat → Nat} {cy : Nat → ClassId} (hO : jOk (jMain D ad cy)) (x0 : Int64) (x2 : Int64) (S : jS) {z : Int64 × jS} (hz : f_X11_commonDivisor x0 x2 S = some z) : Met l yX11_commonDivisor (.code yX11_commonDivisor cX11_commonDivisor 11 (some .long) :: jT) { frames := 0, cells := 0, slots := 0, locals := 0 } (va_Pc [.long x0, .long x2] (jInv (jMain D ad cy) S)) (jQ (jMain D ad cy) (some (.long z.1), z.2)) 0 0 (yA (jMain D ad cy)) :=
  jMet hO (by decide +kernel) rfl (Nat.le_of_ble_eq_true rfl) (fun X _ C Q => p_X11_commonDivisor_e C Q x0 x2 S hz)
theorem k_X11_250_X11_commonDivisor {X : jX} {D : va_G} {ad : Nat → Nat} {cy : Nat → ClassId} {cc : ByteArray} {ret : Option FieldType} {nL fr lo pc : Nat} {lv : List (Nat × Value)} {st : List Value} {S : jS} {β : Type} {z : β} (C : jC X (jMain D ad cy) RX11 cc ret nL fr lo) {a0 : Int64} {a1 : Int64} {E : Int64 → jS → Option β} (d : decode cc pc = .ok (.invokestatic 250, 3)) (hE : jcl (f_X11_commonDivisor a0 a1 S) E = some z) (hfr : 1 ≤ fr) (hlo : 30 ≤ lo) (hst : (st.map fun v => v.category).sum ≤ 8) (K : ∀ (v : Int64) (S1 : jS), E v S1 = some z → jJ X (jMain D ad cy) (pc + 3) lv (.long v :: st) S1) : jJ X (jMain D ad cy) pc lv (.long a1 :: .long a0 :: st) S := by
  obtain ⟨v, h1, h2⟩ := jcl_some hE
  exact j_callS (n := 2) (As := [.long a0, .long a1]) C (c_X11_commonDivisor C.2.2.2.2.2.2.1 a0 a1 S h1) tw_730 tw_731 tw_70 tw_732 (by decide +kernel) rfl hfr hlo hst rfl d (K _ _ h2)
set_option maxRecDepth 100000 in
theorem p_X11_sharedStep_e {X : jX} {D : va_G} {ad : Nat → Nat} {cy : Nat → ClassId} (C : jC X (jMain D ad cy) RX11 cX11_sharedStep (some .int) 4 1 30) {z : Int32 × jS} (Q : jRet X (jMain D ad cy) (some (.int z.1), z.2))  (x0 : Int32) (x1 : Int32) (S : jS) (hE : f_X11_sharedStep_e  x0 x1 S = some z) : jJ X (jMain D ad cy) 0 [(0, .int x0), (1, .int x1)] [] S := by
  unfold f_X11_sharedStep_e at hE
  refine j_iload_n C dX11_sharedStep_0 0 rfl ?_
  refine j_i2l C dX11_sharedStep_1 ?_
  refine j_iload_n C dX11_sharedStep_2 1 rfl ?_
  refine j_i2l C dX11_sharedStep_3 ?_
  refine k_X11_250_X11_commonDivisor C dX11_sharedStep_4 hE (Nat.le_of_ble_eq_true rfl) (Nat.le_of_ble_eq_true rfl) (Nat.le_of_ble_eq_true rfl) (fun v2 S1 hE => ?_)
  refine j_lstore_n (i := 2) (lv' := [(2, .long v2), (0, .int x0), (1, .int x1)]) C dX11_sharedStep_7 rfl (by decide) rfl ?_
  refine j_lload_n C dX11_sharedStep_8 0 rfl ?_
  refine j_lconst (v := 1) C dX11_sharedStep_9 jc_lc_1 ?_
  refine j_lcmp C dX11_sharedStep_10 ?_
  refine j_if_ge (tgt := 16) C dX11_sharedStep_11 rfl hE (fun hE => ?_) (fun hE => ?_)
  · refine j_iload_n C dX11_sharedStep_16 1 rfl ?_
    refine j_i2l C dX11_sharedStep_17 ?_
    refine j_lload_n C dX11_sharedStep_18 0 rfl ?_
    refine j_ldiv C dX11_sharedStep_19 hE (fun v3 hE => ?_)
    refine j_iload_n C dX11_sharedStep_20 2 rfl ?_
    refine j_i2l C dX11_sharedStep_21 ?_
    refine j_lmul C dX11_sharedStep_22 ?_
    refine j_ldc2 (v := 100000) C dX11_sharedStep_23 tw_733 ?_
    refine j_mminl C tm_734 tm_735 tm_88 tm_736 dX11_sharedStep_26 (Nat.le_of_ble_eq_true rfl) (Nat.le_of_ble_eq_true rfl) ?_
    refine j_l2i C dX11_sharedStep_29 ?_
    exact j_iret C Q dX11_sharedStep_30 hE
  · refine j_iload_n C dX11_sharedStep_14 1 rfl ?_
    exact j_iret C Q dX11_sharedStep_15 hE
theorem c_X11_sharedStep {l : Launch} {D : va_G} {ad : Nat → Nat} {cy : Nat → ClassId} (hO : jOk (jMain D ad cy)) (x0 : Int32) (x1 : Int32) (S : jS) {z : Int32 × jS} (hz : f_X11_sharedStep x0 x1 S = some z) : Met l yX11_sharedStep (.code yX11_sharedStep cX11_sharedStep 4 (some .int) :: jT) { frames := 1, cells := 0, slots := 0, locals := 30 } (va_Pc [.int x0, .int x1] (jInv (jMain D ad cy) S)) (jQ (jMain D ad cy) (some (.int z.1), z.2)) 0 0 (yA (jMain D ad cy)) :=
  jMet hO (by decide +kernel) rfl (Nat.le_of_ble_eq_true rfl) (fun X _ C Q => p_X11_sharedStep_e C Q x0 x1 S hz)
theorem k_X11_204_X11_sharedStep {X : jX} {D : va_G} {ad : Nat → Nat} {cy : Nat → ClassId} {cc : ByteArray} {ret : Option FieldType} {nL fr lo pc : Nat} {lv : List (Nat × Value)} {st : List Value} {S : jS} {β : Type} {z : β} (C : jC X (jMain D ad cy) RX11 cc ret nL fr lo) {a0 : Int32} {a1 : Int32} {E : Int32 → jS → Option β} (d : decode cc pc = .ok (.invokestatic 204, 3)) (hE : jcl (f_X11_sharedStep a0 a1 S) E = some z) (hfr : 2 ≤ fr) (hlo : 53 ≤ lo) (hst : (st.map fun v => v.category).sum ≤ 8) (K : ∀ (v : Int32) (S1 : jS), E v S1 = some z → jJ X (jMain D ad cy) (pc + 3) lv (.int v :: st) S1) : jJ X (jMain D ad cy) pc lv (.int a1 :: .int a0 :: st) S := by
  obtain ⟨v, h1, h2⟩ := jcl_some hE
  exact j_callS (n := 2) (As := [.int a0, .int a1]) C (c_X11_sharedStep C.2.2.2.2.2.2.1 a0 a1 S h1) tw_727 tw_728 tw_70 tw_729 (by decide +kernel) rfl hfr hlo hst rfl d (K _ _ h2)
set_option maxRecDepth 100000 in
theorem p_X11_meet_44 {X : jX} {D : va_G} {ad : Nat → Nat} {cy : Nat → ClassId} (C : jC X (jMain D ad cy) RX11 cX11_meet (some .int) 5 2 53) {z : Int32 × jS} (Q : jRet X (jMain D ad cy) (some (.int z.1), z.2)) {g : Int32 → Int32 → Int32 → jS → Option (Int32 × jS)} (hg : ∀ (x1 : Int32) (x2 : Int32) (x3 : Int32) (S : jS), g x1 x2 x3 S = some z → jJ X (jMain D ad cy) 6 [(0, .ref (ad 0)), (1, .int x1), (2, .int x2), (3, .int x3)] [] S) {k50 : Int32 → jS → Option (Int32 × jS)} (hk50 : ∀ (x1 : Int32) (S : jS), k50 x1 S = some z → jJ X (jMain D ad cy) 50 [(1, .int x1)] [] S) (x1 : Int32) (x2 : Int32) (x3 : Int32) (S : jS) (hE : f_X11_meet_44 g k50 x1 x2 x3 S = some z) : jJ X (jMain D ad cy) 44 [(0, .ref (ad 0)), (1, .int x1), (2, .int x2), (3, .int x3)] [] S := by
  unfold f_X11_meet_44 at hE
  refine j_iinc (v := (x3 + 1)) (lv' := [(3, .int (x3 + 1)), (0, .ref (ad 0)), (1, .int x1), (2, .int x2)]) C dX11_meet_44 3 rfl (congrArg (fun w => x3 + w) jc_ic_1) (by decide) rfl ?_
  refine j_goto (tgt := 6) C dX11_meet_47 rfl ?_
  refine j_sub [1, 2, 3, 0] rfl ?_
  exact hg x1 x2 (x3 + 1) S hE
set_option maxRecDepth 100000 in
theorem p_X11_meet_6 {X : jX} {D : va_G} {ad : Nat → Nat} {cy : Nat → ClassId} (C : jC X (jMain D ad cy) RX11 cX11_meet (some .int) 5 2 53) {z : Int32 × jS} (Q : jRet X (jMain D ad cy) (some (.int z.1), z.2)) {g : Int32 → Int32 → Int32 → jS → Option (Int32 × jS)} (hg : ∀ (x1 : Int32) (x2 : Int32) (x3 : Int32) (S : jS), g x1 x2 x3 S = some z → jJ X (jMain D ad cy) 6 [(0, .ref (ad 0)), (1, .int x1), (2, .int x2), (3, .int x3)] [] S) {k50 : Int32 → jS → Option (Int32 × jS)} (hk50 : ∀ (x1 : Int32) (S : jS), k50 x1 S = some z → jJ X (jMain D ad cy) 50 [(1, .int x1)] [] S) (x1 : Int32) (x2 : Int32) (x3 : Int32) (S : jS) (hE : f_X11_meet_6 g k50 x1 x2 x3 S = some z) : jJ X (jMain D ad cy) 6 [(0, .ref (ad 0)), (1, .int x1), (2, .int x2), (3, .int x3)] [] S := by
  unfold f_X11_meet_6 at hE
  refine j_iload_n C dX11_meet_6 3 rfl ?_
  refine j_bipush (v := 8) C dX11_meet_7 jc_bp_8 ?_
  refine j_icmp_ge (tgt := 50) C dX11_meet_9 rfl hE (fun hE => ?_) (fun hE => ?_)
  · refine j_sub [1] rfl ?_
    exact hk50 x1 S hE
  · refine j_aload_n C dX11_meet_12 0 rfl ?_
    refine g_X11_44_0 C dX11_meet_13 ?_
    refine g_X11_96_21 C dX11_meet_16 ?_
    refine j_iload_n C dX11_meet_19 3 rfl ?_
    refine l_22 C dX11_meet_20 hE (fun v1 hE => ?_)
    refine j_istore (lv' := [(4, .int v1), (0, .ref (ad 0)), (1, .int x1), (2, .int x2), (3, .int x3)]) C dX11_meet_21 (by decide) rfl ?_
    refine j_iload C dX11_meet_23 0 rfl ?_
    refine j_if_le (tgt := 44) C dX11_meet_25 rfl hE (fun hE => ?_) (fun hE => ?_)
    · refine j_sub [1, 2, 3, 4] rfl ?_
      exact p_X11_meet_44 C Q hg hk50 x1 x2 x3 S hE
    · refine j_iload_n C dX11_meet_28 2 rfl ?_
      refine j_iload_n C dX11_meet_29 3 rfl ?_
      refine j_iload_n C dX11_meet_30 4 rfl ?_
      refine j_iload C dX11_meet_31 0 rfl ?_
      refine k_X11_200_X11_firstShared C dX11_meet_33 hE (Nat.le_of_ble_eq_true rfl) (Nat.le_of_ble_eq_true rfl) (Nat.le_of_ble_eq_true rfl) (fun v3 S2 hE => ?_)
      refine j_istore_n (i := 1) (lv' := [(1, .int v3), (4, .int v1), (0, .ref (ad 0)), (2, .int x2), (3, .int x3)]) C dX11_meet_36 rfl (by decide) rfl ?_
      refine j_iload_n C dX11_meet_37 3 rfl ?_
      refine j_iload C dX11_meet_38 1 rfl ?_
      refine k_X11_204_X11_sharedStep C dX11_meet_40 hE (Nat.le_of_ble_eq_true rfl) (Nat.le_of_ble_eq_true rfl) (Nat.le_of_ble_eq_true rfl) (fun v5 S4 hE => ?_)
      refine j_istore_n (i := 2) (lv' := [(2, .int v5), (1, .int v3), (4, .int v1), (0, .ref (ad 0)), (3, .int x3)]) C dX11_meet_43 rfl (by decide) rfl ?_
      refine j_sub [3, 1, 0, 4] rfl ?_
      exact p_X11_meet_44 C Q hg hk50 v3 v5 x3 S4 hE
theorem q_X11_meet_6 {X : jX} {D : va_G} {ad : Nat → Nat} {cy : Nat → ClassId} (C : jC X (jMain D ad cy) RX11 cX11_meet (some .int) 5 2 53) {z : Int32 × jS} (Q : jRet X (jMain D ad cy) (some (.int z.1), z.2)) {k50 : Int32 → jS → Option (Int32 × jS)} (hk50 : ∀ (x1 : Int32) (S : jS), k50 x1 S = some z → jJ X (jMain D ad cy) 50 [(1, .int x1)] [] S) (x1 : Int32) (x2 : Int32) (x3 : Int32) (S : jS) (hE : lp_X11_meet_6 k50 x1 x2 x3 S = some z) : jJ X (jMain D ad cy) 6 [(0, .ref (ad 0)), (1, .int x1), (2, .int x2), (3, .int x3)] [] S :=
  jloop_P (α := Int32 × Int32 × Int32 × jS) (B := (fun g q => f_X11_meet_6 (fun x1 x2 x3 S => g (x1, x2, x3, S)) k50 q.1 q.2.1 q.2.2.1 q.2.2.2)) (P := fun q => jJ X (jMain D ad cy) 6 [(0, .ref (ad 0)), (1, .int q.1), (2, .int q.2.1), (3, .int q.2.2.1)] [] q.2.2.2) (fun g q hg h => p_X11_meet_6 C Q (g := fun x1 x2 x3 S => g (x1, x2, x3, S)) (fun x1 x2 x3 S h => hg (x1, x2, x3, S) h) hk50 q.1 q.2.1 q.2.2.1 q.2.2.2 h) jN (x1, x2, x3, S) hE
set_option maxRecDepth 100000 in
theorem p_X11_meet_61 {X : jX} {D : va_G} {ad : Nat → Nat} {cy : Nat → ClassId} (C : jC X (jMain D ad cy) RX11 cX11_meet (some .int) 5 2 53) {z : Int32 × jS} (Q : jRet X (jMain D ad cy) (some (.int z.1), z.2))  (a0 : Int32) (S : jS) (hE : f_X11_meet_61  a0 S = some z) : jJ X (jMain D ad cy) 61 [] [.int a0] S := by
  unfold f_X11_meet_61 at hE
  exact j_iret C Q dX11_meet_61 hE
set_option maxRecDepth 100000 in
theorem p_X11_meet_50 {X : jX} {D : va_G} {ad : Nat → Nat} {cy : Nat → ClassId} (C : jC X (jMain D ad cy) RX11 cX11_meet (some .int) 5 2 53) {z : Int32 × jS} (Q : jRet X (jMain D ad cy) (some (.int z.1), z.2))  (x1 : Int32) (S : jS) (hE : f_X11_meet_50  x1 S = some z) : jJ X (jMain D ad cy) 50 [(1, .int x1)] [] S := by
  unfold f_X11_meet_50 at hE
  refine j_iload_n C dX11_meet_50 0 rfl ?_
  refine j_ldc (v := 99999) C dX11_meet_51 tw_723 ?_
  refine j_icmp_le (tgt := 60) C dX11_meet_53 rfl hE (fun hE => ?_) (fun hE => ?_)
  · refine j_iload_n C dX11_meet_60 0 rfl ?_
    refine j_sub [] rfl ?_
    exact p_X11_meet_61 C Q  x1 S hE
  · refine j_iconst (v := (-1)) C dX11_meet_56 jc_ic_m1 ?_
    refine j_goto (tgt := 61) C dX11_meet_57 rfl ?_
    refine j_sub [] rfl ?_
    exact p_X11_meet_61 C Q  (-1) S hE
set_option maxRecDepth 100000 in
theorem p_X11_meet_e {X : jX} {D : va_G} {ad : Nat → Nat} {cy : Nat → ClassId} (C : jC X (jMain D ad cy) RX11 cX11_meet (some .int) 5 2 53) {z : Int32 × jS} (Q : jRet X (jMain D ad cy) (some (.int z.1), z.2))   (S : jS) (hE : f_X11_meet_e   S = some z) : jJ X (jMain D ad cy) 0 [(0, .ref (ad 0))] [] S := by
  unfold f_X11_meet_e at hE
  refine j_iconst (v := 0) C dX11_meet_0 jc_ic_0 ?_
  refine j_istore_n (i := 1) (lv' := [(1, .int 0), (0, .ref (ad 0))]) C dX11_meet_1 rfl (by decide) rfl ?_
  refine j_iconst (v := 1) C dX11_meet_2 jc_ic_1 ?_
  refine j_istore_n (i := 2) (lv' := [(2, .int 1), (1, .int 0), (0, .ref (ad 0))]) C dX11_meet_3 rfl (by decide) rfl ?_
  refine j_iconst (v := 0) C dX11_meet_4 jc_ic_0 ?_
  refine j_istore_n (i := 3) (lv' := [(3, .int 0), (2, .int 1), (1, .int 0), (0, .ref (ad 0))]) C dX11_meet_5 rfl (by decide) rfl ?_
  refine j_sub [3, 2, 1, 0] rfl ?_
  exact q_X11_meet_6 C Q (p_X11_meet_50 C Q ) 0 1 0 S hE
theorem c_X11_meet {l : Launch} {D : va_G} {ad : Nat → Nat} {cy : Nat → ClassId} (hO : jOk (jMain D ad cy))  (S : jS) {z : Int32 × jS} (hz : f_X11_meet  S = some z) : Met l yX11_meet (.code yX11_meet cX11_meet 5 (some .int) :: jT) { frames := 2, cells := 0, slots := 0, locals := 53 } (va_Pc [.ref (ad 0)] (jInv (jMain D ad cy) S)) (jQ (jMain D ad cy) (some (.int z.1), z.2)) 0 0 (yA (jMain D ad cy)) :=
  jMet hO (by decide +kernel) rfl (Nat.le_of_ble_eq_true rfl) (fun X _ C Q => p_X11_meet_e C Q  S hz)
