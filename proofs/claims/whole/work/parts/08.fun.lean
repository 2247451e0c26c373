/-! ===== the methods as functions of the state: by program, out of the bytecode ===== -/
def f_X12_in_18   (a0 : Int32) (S : jS) : Option (Int32 × jS) :=
  jzr a0 S
def f_X12_in_17    (S : jS) : Option (Int32 × jS) :=
  f_X12_in_18   0 S
def f_X12_in_e   (x0 : Int64) (x2 : Int64) (x4 : Int64) (S : jS) : Option (Int32 × jS) :=
  if (lg_cmp x0 x2) < 0 then
    f_X12_in_17    S
  else
    if 0 < (lg_cmp x0 x4) then
      f_X12_in_17    S
    else
      f_X12_in_18   1 S
def f_X12_in (x0 : Int64) (x2 : Int64) (x4 : Int64) (S : jS) : Option (Int32 × jS) := f_X12_in_e x0 x2 x4 S
def f_X12_isLaw_29   (a0 : Int32) (S : jS) : Option (Int32 × jS) :=
  jzr a0 S
def f_X12_isLaw_28    (S : jS) : Option (Int32 × jS) :=
  f_X12_isLaw_29   0 S
def f_X12_isLaw_e   (x0 : Int32) (x1 : Int32) (S : jS) : Option (Int32 × jS) :=
  jcl (f_X12_in x0.toInt64 0 5 S) (fun v2 S1 =>
  if v2 = 0 then
    f_X12_isLaw_28    S1
  else
    jcl (f_X12_in x1.toInt64 0 9 S1) (fun v4 S3 =>
    if v4 = 0 then
      f_X12_isLaw_28    S3
    else
      f_X12_isLaw_29   1 S3))
def f_X12_isLaw (x0 : Int32) (x1 : Int32) (S : jS) : Option (Int32 × jS) := f_X12_isLaw_e x0 x1 S
def f_X12_lived_27  (g : Int32 → Int32 → jS → Option (Int32 × jS)) (k35 : Int32 → jS → Option (Int32 × jS)) (a0 : Int32) (a1 : Int32) (x2 : Int32) (S : jS) : Option (Int32 × jS) :=
  g (a1 ||| a0) (x2 + 1) S
def f_X12_lived_4  (g : Int32 → Int32 → jS → Option (Int32 × jS)) (k35 : Int32 → jS → Option (Int32 × jS)) (x1 : Int32) (x2 : Int32) (S : jS) : Option (Int32 × jS) :=
  if x2 < 8 then
    jld S 42 x2 149 (fun v1 =>
    if 0 < v1 then
      f_X12_lived_27  g k35 (1 <<< (x2 &&& 31)) x1 x2 S
    else
      f_X12_lived_27  g k35 0 x1 x2 S)
  else
    k35 x1 S
def lp_X12_lived_4  (k35 : Int32 → jS → Option (Int32 × jS)) (x1 : Int32) (x2 : Int32) (S : jS) : Option (Int32 × jS) := jloop (α := Int32 × Int32 × jS) (fun g q => f_X12_lived_4  (fun x1 x2 S => g (x1, x2, S)) k35 q.1 q.2.1 q.2.2) jN (x1, x2, S)
def f_X12_lived_35   (x1 : Int32) (S : jS) : Option (Int32 × jS) :=
  some (x1, S)
def f_X12_lived_e    (S : jS) : Option (Int32 × jS) :=
  lp_X12_lived_4  (f_X12_lived_35) 0 0 S
def f_X12_lived  (S : jS) : Option (Int32 × jS) := f_X12_lived_e  S
def f_X12_bits_4  (g : Int32 → Int32 → jS → Option (Int32 × jS)) (k21 : Int32 → jS → Option (Int32 × jS)) (x1 : Int32) (x2 : Int32) (S : jS) : Option (Int32 × jS) :=
  if 0 < x2 then
    g (x1 + (x2 &&& 1)) (x2 >>> (1 &&& 31)) S
  else
    k21 x1 S
def lp_X12_bits_4  (k21 : Int32 → jS → Option (Int32 × jS)) (x1 : Int32) (x2 : Int32) (S : jS) : Option (Int32 × jS) := jloop (α := Int32 × Int32 × jS) (fun g q => f_X12_bits_4  (fun x1 x2 S => g (x1, x2, S)) k21 q.1 q.2.1 q.2.2) jN (x1, x2, S)
def f_X12_bits_21   (x1 : Int32) (S : jS) : Option (Int32 × jS) :=
  some (x1, S)
def f_X12_bits_e   (x0 : Int32) (S : jS) : Option (Int32 × jS) :=
  lp_X12_bits_4  (f_X12_bits_21) 0 x0 S
def f_X12_bits (x0 : Int32) (S : jS) : Option (Int32 × jS) := f_X12_bits_e x0 S
def f_X12_begin_r42_2  (g : Int32 → Int32 → Int32 → jS → Option (jS)) (k18 : Int32 → Int32 → jS → Option (jS)) (x1 : Int32) (x2 : Int32) (x3 : Int32) (S : jS) : Option (jS) :=
  if x3 < 69 then
    jst S 42 x3 149 0 (fun S1 =>
    g x1 x2 (x3 + 1) S1)
  else
    k18 x1 x2 S
def lp_X12_begin_r42_2  (k18 : Int32 → Int32 → jS → Option (jS)) (x1 : Int32) (x2 : Int32) (x3 : Int32) (S : jS) : Option (jS) := jloop (α := Int32 × Int32 × Int32 × jS) (fun g q => f_X12_begin_r42_2  (fun x1 x2 x3 S => g (x1, x2, x3, S)) k18 q.1 q.2.1 q.2.2.1 q.2.2.2) jN (x1, x2, x3, S)
def f_X12_begin_r42_18   (x1 : Int32) (x2 : Int32) (S : jS) : Option (jS) :=
  jst S 42 8 149 x1 (fun S1 =>
  jst S1 42 9 149 x2 (fun S2 =>
  some S2))
def f_X12_begin_r42_e   (x1 : Int32) (x2 : Int32) (S : jS) : Option (jS) :=
  lp_X12_begin_r42_2  (f_X12_begin_r42_18) x1 x2 0 S
def f_X12_begin_r42 (x1 : Int32) (x2 : Int32) (S : jS) : Option (jS) := f_X12_begin_r42_e x1 x2 S
def f_X12_bad_e   (x1 : Int32) (S : jS) : Option (Int32 × jS) :=
  jld S 45 0 3 (fun v1 =>
  jst S 45 0 3 (v1 + 1) (fun S2 =>
  some (x1, S2)))
def f_X12_bad (x1 : Int32) (S : jS) : Option (Int32 × jS) := f_X12_bad_e x1 S
def f_X12_street_e   (x1 : Int32) (x2 : Int32) (S : jS) : Option (Int32 × jS) :=
  jcl (f_X12_isLaw x1 x2 S) (fun v2 S1 =>
  if v2 = 0 then
    jcl (f_X12_bad (-2) S1) (fun v9 S8 =>
    some (v9, S8))
  else
    jcl (f_X12_lived  S1) (fun v4 S3 =>
    jcl (f_X12_bits v4 S3) (fun v6 S5 =>
    jcv (f_X12_begin_r42 x1 x2 S5) (fun S7 =>
    some (v6, S7)))))
def f_X12_street (x1 : Int32) (x2 : Int32) (S : jS) : Option (Int32 × jS) := f_X12_street_e x1 x2 S
def f_X11_isLaw_25   (a0 : Int32) (S : jS) : Option (Int32 × jS) :=
  jzr a0 S
def f_X11_isLaw_24    (S : jS) : Option (Int32 × jS) :=
  f_X11_isLaw_25   0 S
def f_X11_isLaw_e   (x0 : Int32) (x1 : Int32) (S : jS) : Option (Int32 × jS) :=
  if x0 < 0 then
    f_X11_isLaw_24    S
  else
    if x0 < 6 then
      if x1 < 0 then
        f_X11_isLaw_24    S
      else
        if 9 < x1 then
          f_X11_isLaw_24    S
        else
          f_X11_isLaw_25   1 S
    else
      f_X11_isLaw_24    S
def f_X11_isLaw (x0 : Int32) (x1 : Int32) (S : jS) : Option (Int32 × jS) := f_X11_isLaw_e x0 x1 S
def f_X10_living_22  (g : Int32 → Int32 → jS → Option (Int32 × jS)) (k28 : Int32 → jS → Option (Int32 × jS)) (x1 : Int32) (x2 : Int32) (S : jS) : Option (Int32 × jS) :=
  g x1 (x2 + 1) S
def f_X10_living_4  (g : Int32 → Int32 → jS → Option (Int32 × jS)) (k28 : Int32 → jS → Option (Int32 × jS)) (x1 : Int32) (x2 : Int32) (S : jS) : Option (Int32 × jS) :=
  if x2 < 8 then
    jld S 22 x2 8 (fun v1 =>
    if 0 < v1 then
      f_X10_living_22  g k28 (x1 + 1) x2 S
    else
      f_X10_living_22  g k28 x1 x2 S)
  else
    k28 x1 S
def lp_X10_living_4  (k28 : Int32 → jS → Option (Int32 × jS)) (x1 : Int32) (x2 : Int32) (S : jS) : Option (Int32 × jS) := jloop (α := Int32 × Int32 × jS) (fun g q => f_X10_living_4  (fun x1 x2 S => g (x1, x2, S)) k28 q.1 q.2.1 q.2.2) jN (x1, x2, S)
def f_X10_living_28   (x1 : Int32) (S : jS) : Option (Int32 × jS) :=
  some (x1, S)
def f_X10_living_e    (S : jS) : Option (Int32 × jS) :=
  lp_X10_living_4  (f_X10_living_28) 0 0 S
def f_X10_living  (S : jS) : Option (Int32 × jS) := f_X10_living_e  S
def f_X10_begin_2  (g : Int32 → Int32 → jS → Option (jS)) (k21 : Int32 → jS → Option (jS)) (x1 : Int32) (x2 : Int32) (S : jS) : Option (jS) :=
  if x2 < 8 then
    jst S 22 x2 8 0 (fun S1 =>
    g x1 (x2 + 1) S1)
  else
    k21 x1 S
def lp_X10_begin_2  (k21 : Int32 → jS → Option (jS)) (x1 : Int32) (x2 : Int32) (S : jS) : Option (jS) := jloop (α := Int32 × Int32 × jS) (fun g q => f_X10_begin_2  (fun x1 x2 S => g (x1, x2, S)) k21 q.1 q.2.1 q.2.2) jN (x1, x2, S)
def f_X10_begin_21   (x1 : Int32) (S : jS) : Option (jS) :=
  jpt S 21 1 x1 (fun S1 =>
  jpt S1 21 3 0 (fun S2 =>
  jpt S2 21 5 0 (fun S3 =>
  jpt S3 21 6 0 (fun S4 =>
  some S4))))
def f_X10_begin_e   (x1 : Int32) (S : jS) : Option (jS) :=
  lp_X10_begin_2  (f_X10_begin_21) x1 0 S
def f_X10_begin (x1 : Int32) (S : jS) : Option (jS) := f_X10_begin_e x1 S
def f_X11_refuseBad_e    (S : jS) : Option (Int32 × jS) :=
  jpt S 0 13 ((S.1 0 13) + 1) (fun S1 =>
  some ((-2), S1))
def f_X11_refuseBad  (S : jS) : Option (Int32 × jS) := f_X11_refuseBad_e  S
def f_X11_street_e   (x1 : Int32) (x2 : Int32) (S : jS) : Option (Int32 × jS) :=
  jcl (f_X11_isLaw x1 x2 S) (fun v2 S1 =>
  if v2 = 0 then
    jcl (f_X11_refuseBad  S1) (fun v7 S6 =>
    some (v7, S6))
  else
    jcl (f_X10_living  S1) (fun v4 S3 =>
    jcv (f_X10_begin ((10 * x1) + x2) S3) (fun S5 =>
    some (v4, S5))))
def f_X11_street (x1 : Int32) (x2 : Int32) (S : jS) : Option (Int32 × jS) := f_X11_street_e x1 x2 S
def f_X12_law_e    (S : jS) : Option (Int32 × jS) :=
  jld S 42 8 149 (fun v1 =>
  jld S 42 9 149 (fun v2 =>
  some (((10 * v1) + v2), S)))
def f_X12_law  (S : jS) : Option (Int32 × jS) := f_X12_law_e  S
def f_X12_keep_55  (g : Int32 → jS → Option (jS)) (k93 : jS → Option (jS)) (x1 : Int32) (S : jS) : Option (jS) :=
  if x1 < 10 then
    jld S 42 12 149 (fun v1 =>
    jld S 42 x1 149 (fun v2 =>
    jst S 42 ((69 + (10 * v1)) + x1) 149 v2 (fun S3 =>
    g (x1 + 1) S3)))
  else
    k93  S
def lp_X12_keep_55  (k93 : jS → Option (jS)) (x1 : Int32) (S : jS) : Option (jS) := jloop (α := Int32 × jS) (fun g q => f_X12_keep_55  (fun x1 S => g (x1, S)) k93 q.1 q.2) jN (x1, S)
def f_X12_keep_93    (S : jS) : Option (jS) :=
  jld S 42 12 149 (fun v1 =>
  jst S 42 12 149 (v1 + 1) (fun S2 =>
  some S2))
def f_X12_keep_53    (S : jS) : Option (jS) :=
  lp_X12_keep_55  (f_X12_keep_93) 0 S
def f_X12_keep_14  (g : Int32 → jS → Option (jS)) (k44 : jS → Option (jS)) (x1 : Int32) (S : jS) : Option (jS) :=
  if x1 < 70 then
    jld S 42 (79 + x1) 149 (fun v1 =>
    jst S 42 (69 + x1) 149 v1 (fun S2 =>
    g (x1 + 1) S2))
  else
    k44  S
def lp_X12_keep_14  (k44 : jS → Option (jS)) (x1 : Int32) (S : jS) : Option (jS) := jloop (α := Int32 × jS) (fun g q => f_X12_keep_14  (fun x1 S => g (x1, S)) k44 q.1 q.2) jN (x1, S)
def f_X12_keep_44    (S : jS) : Option (jS) :=
  jst S 42 12 149 7 (fun S1 =>
  f_X12_keep_53    S1)
def f_X12_keep_e    (S : jS) : Option (jS) :=
  jld S 42 12 149 (fun v1 =>
  if v1 = 8 then
    lp_X12_keep_14  (f_X12_keep_44) 0 S
  else
    f_X12_keep_53    S)
def f_X12_keep  (S : jS) : Option (jS) := f_X12_keep_e  S
def f_X12_rule_e   (x1 : Int32) (x2 : Int32) (S : jS) : Option (Int32 × jS) :=
  jcl (f_X12_isLaw x1 x2 S) (fun v2 S1 =>
  if v2 = 0 then
    jcl (f_X12_bad (-2) S1) (fun v9 S8 =>
    some (v9, S8))
  else
    jcl (f_X12_law  S1) (fun v4 S3 =>
    jcv (f_X12_keep  S3) (fun S5 =>
    jst S5 42 8 149 x1 (fun S6 =>
    jst S6 42 9 149 x2 (fun S7 =>
    some (v4, S7))))))
def f_X12_rule (x1 : Int32) (x2 : Int32) (S : jS) : Option (Int32 × jS) := f_X12_rule_e x1 x2 S
def f_X10_remember_31    (S : jS) : Option (jS) :=
  jcp S 22 8 0 25 72 ((S.1 21 6) * 9) 8 (fun S1 =>
  jst S1 25 (((S.1 21 6) * 9) + 8) 72 (S1.1 21 1) (fun S2 =>
  jpt S2 21 6 ((S2.1 21 6) + 1) (fun S3 =>
  some S3)))
def f_X10_remember_e    (S : jS) : Option (jS) :=
  if (S.1 21 6) < 8 then
    f_X10_remember_31    S
  else
    jcp S 25 72 9 25 72 0 63 (fun S1 =>
    jpt S1 21 6 7 (fun S2 =>
    f_X10_remember_31    S2))
def f_X10_remember  (S : jS) : Option (jS) := f_X10_remember_e  S
def f_X11_rule_e   (x1 : Int32) (x2 : Int32) (S : jS) : Option (Int32 × jS) :=
  jcl (f_X11_isLaw x1 x2 S) (fun v2 S1 =>
  if v2 = 0 then
    jcl (f_X11_refuseBad  S1) (fun v6 S5 =>
    some (v6, S5))
  else
    jcv (f_X10_remember  S1) (fun S3 =>
    jpt S3 21 1 ((10 * x1) + x2) (fun S4 =>
    some ((S1.1 21 1), S4))))
def f_X11_rule (x1 : Int32) (x2 : Int32) (S : jS) : Option (Int32 × jS) := f_X11_rule_e x1 x2 S
def f_X12_isHouse_e   (x0 : Int32) (S : jS) : Option (Int32 × jS) :=
  jcl (f_X12_in x0.toInt64 0 7 S) (fun v2 S1 =>
  jzr v2 S1)
def f_X12_isHouse (x0 : Int32) (S : jS) : Option (Int32 × jS) := f_X12_isHouse_e x0 S
def f_X12_house_19    (S : jS) : Option (Int32 × jS) :=
  jcl (f_X12_bad (-2) S) (fun v2 S1 =>
  some (v2, S1))
def f_X12_house_e   (x1 : Int32) (x2 : Int32) (S : jS) : Option (Int32 × jS) :=
  jcl (f_X12_isHouse x1 S) (fun v2 S1 =>
  if v2 = 0 then
    f_X12_house_19    S1
  else
    jcl (f_X12_in x2.toInt64 0 300 S1) (fun v4 S3 =>
    if v4 = 0 then
      f_X12_house_19    S3
    else
      jld S3 42 x1 149 (fun v5 =>
      jcv (f_X12_keep  S3) (fun S6 =>
      jst S6 42 x1 149 x2 (fun S7 =>
      some (v5, S7))))))
def f_X12_house (x1 : Int32) (x2 : Int32) (S : jS) : Option (Int32 × jS) := f_X12_house_e x1 x2 S
def f_X11_isHouse_15   (a0 : Int32) (S : jS) : Option (Int32 × jS) :=
  jzr a0 S
def f_X11_isHouse_14    (S : jS) : Option (Int32 × jS) :=
  f_X11_isHouse_15   0 S
def f_X11_isHouse_e   (x0 : Int32) (S : jS) : Option (Int32 × jS) :=
  if x0 < 0 then
    f_X11_isHouse_14    S
  else
    if x0 < 8 then
      f_X11_isHouse_15   1 S
    else
      f_X11_isHouse_14    S
def f_X11_isHouse (x0 : Int32) (S : jS) : Option (Int32 × jS) := f_X11_isHouse_e x0 S
def f_X11_house_18    (S : jS) : Option (Int32 × jS) :=
  jcl (f_X11_refuseBad  S) (fun v2 S1 =>
  some (v2, S1))
def f_X11_house_e   (x1 : Int32) (x2 : Int32) (S : jS) : Option (Int32 × jS) :=
  jcl (f_X11_isHouse x1 S) (fun v2 S1 =>
  if v2 = 0 then
    f_X11_house_18    S1
  else
    if x2 < 0 then
      f_X11_house_18    S1
    else
      if 300 < x2 then
        f_X11_house_18    S1
      else
        jld S1 22 x1 8 (fun v3 =>
        jcv (f_X10_remember  S1) (fun S4 =>
        jst S4 22 x1 8 x2 (fun S5 =>
        some (v3, S5)))))
def f_X11_house (x1 : Int32) (x2 : Int32) (S : jS) : Option (Int32 × jS) := f_X11_house_e x1 x2 S
def f_X12_no_e    (S : jS) : Option (Int32 × jS) :=
  jld S 45 1 3 (fun v1 =>
  jst S 45 1 3 (v1 + 1) (fun S2 =>
  some ((-3), S2)))
def f_X12_no  (S : jS) : Option (Int32 × jS) := f_X12_no_e  S
def f_X12_birthday_35    (S : jS) : Option (Int32 × jS) :=
  jcl (f_X12_no  S) (fun v2 S1 =>
  some (v2, S1))
def f_X12_birthday_e   (x1 : Int32) (S : jS) : Option (Int32 × jS) :=
  jcl (f_X12_isHouse x1 S) (fun v2 S1 =>
  if v2 = 0 then
    jcl (f_X12_bad (-2) S1) (fun v10 S9 =>
    some (v10, S9))
  else
    jld S1 42 x1 149 (fun v3 =>
    if v3 = 0 then
      f_X12_birthday_35    S1
    else
      jld S1 42 x1 149 (fun v4 =>
      if v4 = 300 then
        f_X12_birthday_35    S1
      else
        jcv (f_X12_keep  S1) (fun S5 =>
        jld S5 42 x1 149 (fun v6 =>
        jst S5 42 x1 149 (v6 + 1) (fun S7 =>
        jld S7 42 x1 149 (fun v8 =>
        some (v8, S7))))))))
def f_X12_birthday (x1 : Int32) (S : jS) : Option (Int32 × jS) := f_X12_birthday_e x1 S
def f_X11_refuseNo_e    (S : jS) : Option (Int32 × jS) :=
  jpt S 0 14 ((S.1 0 14) + 1) (fun S1 =>
  some ((-3), S1))
def f_X11_refuseNo  (S : jS) : Option (Int32 × jS) := f_X11_refuseNo_e  S
def f_X11_birthday_33    (S : jS) : Option (Int32 × jS) :=
  jcl (f_X11_refuseNo  S) (fun v2 S1 =>
  some (v2, S1))
def f_X11_birthday_e   (x1 : Int32) (S : jS) : Option (Int32 × jS) :=
  jcl (f_X11_isHouse x1 S) (fun v2 S1 =>
  if v2 = 0 then
    jcl (f_X11_refuseBad  S1) (fun v7 S6 =>
    some (v7, S6))
  else
    jld S1 22 x1 8 (fun v3 =>
    if v3 = 0 then
      f_X11_birthday_33    S1
    else
      if v3 < 300 then
        jcv (f_X10_remember  S1) (fun S4 =>
        jst S4 22 x1 8 (v3 + 1) (fun S5 =>
        some ((v3 + 1), S5)))
      else
        f_X11_birthday_33    S1))
def f_X11_birthday (x1 : Int32) (S : jS) : Option (Int32 × jS) := f_X11_birthday_e x1 S
def f_X12_swap_19    (S : jS) : Option (Int32 × jS) :=
  jcl (f_X12_bad (-2) S) (fun v2 S1 =>
  some (v2, S1))
def f_X12_swap_49   (x1 : Int32) (x2 : Int32) (S : jS) : Option (Int32 × jS) :=
  jcv (f_X12_keep  S) (fun S1 =>
  jld S1 42 x1 149 (fun v2 =>
  jld S1 42 x2 149 (fun v3 =>
  jst S1 42 x1 149 v3 (fun S4 =>
  jst S4 42 x2 149 v2 (fun S5 =>
  some (1, S5))))))
def f_X12_swap_e   (x1 : Int32) (x2 : Int32) (S : jS) : Option (Int32 × jS) :=
  jcl (f_X12_isHouse x1 S) (fun v2 S1 =>
  if v2 = 0 then
    f_X12_swap_19    S1
  else
    jcl (f_X12_isHouse x2 S1) (fun v4 S3 =>
    if v4 = 0 then
      f_X12_swap_19    S3
    else
      if x1 = x2 then
        f_X12_swap_19    S3
      else
        jld S3 42 x1 149 (fun v5 =>
        if v5 = 0 then
          jld S3 42 x2 149 (fun v6 =>
          if v6 = 0 then
            jcl (f_X12_no  S3) (fun v8 S7 =>
            some (v8, S7))
          else
            f_X12_swap_49   x1 x2 S3)
        else
          f_X12_swap_49   x1 x2 S3)))
def f_X12_swap (x1 : Int32) (x2 : Int32) (S : jS) : Option (Int32 × jS) := f_X12_swap_e x1 x2 S
def f_X11_swap_19    (S : jS) : Option (Int32 × jS) :=
  jcl (f_X11_refuseBad  S) (fun v2 S1 =>
  some (v2, S1))
def f_X11_swap_59   (x1 : Int32) (x2 : Int32) (x3 : Int32) (x4 : Int32) (S : jS) : Option (Int32 × jS) :=
  jcv (f_X10_remember  S) (fun S1 =>
  jst S1 22 x1 8 x4 (fun S2 =>
  jst S2 22 x2 8 x3 (fun S3 =>
  some (1, S3))))
def f_X11_swap_e   (x1 : Int32) (x2 : Int32) (S : jS) : Option (Int32 × jS) :=
  jcl (f_X11_isHouse x1 S) (fun v2 S1 =>
  if v2 = 0 then
    f_X11_swap_19    S1
  else
    jcl (f_X11_isHouse x2 S1) (fun v4 S3 =>
    if v4 = 0 then
      f_X11_swap_19    S3
    else
      if x1 = x2 then
        f_X11_swap_19    S3
      else
        jld S3 22 x1 8 (fun v5 =>
        jld S3 22 x2 8 (fun v6 =>
        if v5 = 0 then
          if v6 = 0 then
            jcl (f_X11_refuseNo  S3) (fun v8 S7 =>
            some (v8, S7))
          else
            f_X11_swap_59   x1 x2 v5 v6 S3
        else
          f_X11_swap_59   x1 x2 v5 v6 S3))))
def f_X11_swap (x1 : Int32) (x2 : Int32) (S : jS) : Option (Int32 × jS) := f_X11_swap_e x1 x2 S
def f_X12_undo_28  (g : Int32 → jS → Option (Int32 × jS)) (k66 : jS → Option (Int32 × jS)) (x1 : Int32) (S : jS) : Option (Int32 × jS) :=
  if x1 < 10 then
    jld S 42 12 149 (fun v1 =>
    jld S 42 ((69 + (10 * v1)) + x1) 149 (fun v2 =>
    jst S 42 x1 149 v2 (fun S3 =>
    g (x1 + 1) S3)))
  else
    k66  S
def lp_X12_undo_28  (k66 : jS → Option (Int32 × jS)) (x1 : Int32) (S : jS) : Option (Int32 × jS) := jloop (α := Int32 × jS) (fun g q => f_X12_undo_28  (fun x1 S => g (x1, S)) k66 q.1 q.2) jN (x1, S)
def f_X12_undo_66    (S : jS) : Option (Int32 × jS) :=
  jcl (f_X12_lived  S) (fun v2 S1 =>
  jcl (f_X12_bits v2 S1) (fun v4 S3 =>
  some (v4, S3)))
def f_X12_undo_e    (S : jS) : Option (Int32 × jS) :=
  jld S 42 12 149 (fun v1 =>
  if v1 = 0 then
    jcl (f_X12_no  S) (fun v5 S4 =>
    some (v5, S4))
  else
    jld S 42 12 149 (fun v2 =>
    jst S 42 12 149 (v2 - 1) (fun S3 =>
    lp_X12_undo_28  (f_X12_undo_66) 0 S3)))
def f_X12_undo  (S : jS) : Option (Int32 × jS) := f_X12_undo_e  S
def f_X10_goBack_e    (S : jS) : Option (Int32 × jS) :=
  if (S.1 21 6) < 1 then
    jzr 0 S
  else
    jpt S 21 6 ((S.1 21 6) - 1) (fun S1 =>
    jcp S1 25 72 ((S1.1 21 6) * 9) 22 8 0 8 (fun S2 =>
    jld S2 25 (((S1.1 21 6) * 9) + 8) 72 (fun v3 =>
    jpt S2 21 1 v3 (fun S4 =>
    jzr 1 S4))))
def f_X10_goBack  (S : jS) : Option (Int32 × jS) := f_X10_goBack_e  S
def f_X11_undo_e    (S : jS) : Option (Int32 × jS) :=
  jcl (f_X10_goBack  S) (fun v2 S1 =>
  if v2 = 0 then
    jcl (f_X11_refuseNo  S1) (fun v6 S5 =>
    some (v6, S5))
  else
    jcl (f_X10_living  S1) (fun v4 S3 =>
    some (v4, S3)))
def f_X11_undo  (S : jS) : Option (Int32 × jS) := f_X11_undo_e  S
def f_X12_full_e    (S : jS) : Option (Int32 × jS) :=
  jld S 45 2 3 (fun v1 =>
  jst S 45 2 3 (v1 + 1) (fun S2 =>
  some ((-4), S2)))
def f_X12_full  (S : jS) : Option (Int32 × jS) := f_X12_full_e  S
def f_X12_type_e   (x1 : Int32) (S : jS) : Option (Int32 × jS) :=
  jcl (f_X12_in x1.toInt64 0 127 S) (fun v2 S1 =>
  if v2 = 0 then
    jcl (f_X12_bad (-2) S1) (fun v8 S7 =>
    some (v8, S7))
  else
    if (S1.1 41 18) = 150 then
      jcl (f_X12_full  S1) (fun v6 S5 =>
      some (v6, S5))
    else
      jst S1 53 (S1.1 41 18) 150 x1 (fun S3 =>
      jpt S3 41 18 ((S3.1 41 18) + 1) (fun S4 =>
      some ((S4.1 41 18), S4))))
def f_X12_type (x1 : Int32) (S : jS) : Option (Int32 × jS) := f_X12_type_e x1 S
def f_X7_take_e   (x1 : Int32) (S : jS) : Option (Int32 × jS) :=
  if (S.1 18 1) < 150 then
    jst S 20 (S.1 18 1) 150 (vp_nar .byte x1.toInt8.toInt32) (fun S1 =>
    jpt S1 18 1 ((S1.1 18 1) + 1) (fun S2 =>
    jzr 1 S2))
  else
    jzr 0 S
def f_X7_take (x1 : Int32) (S : jS) : Option (Int32 × jS) := f_X7_take_e x1 S
def f_X11_refuseFull_e    (S : jS) : Option (Int32 × jS) :=
  jpt S 0 15 ((S.1 0 15) + 1) (fun S1 =>
  some ((-4), S1))
def f_X11_refuseFull  (S : jS) : Option (Int32 × jS) := f_X11_refuseFull_e  S
def f_X11_type_10    (S : jS) : Option (Int32 × jS) :=
  jcl (f_X11_refuseBad  S) (fun v2 S1 =>
  some (v2, S1))
def f_X11_type_e   (x1 : Int32) (S : jS) : Option (Int32 × jS) :=
  if x1 < 0 then
    f_X11_type_10    S
  else
    if 127 < x1 then
      f_X11_type_10    S
    else
      jcl (f_X7_take x1 S) (fun v2 S1 =>
      if v2 = 0 then
        jcl (f_X11_refuseFull  S1) (fun v4 S3 =>
        some (v4, S3))
      else
        some ((S1.1 18 1), S1))
def f_X11_type (x1 : Int32) (S : jS) : Option (Int32 × jS) := f_X11_type_e x1 S
def f_X12_clear_e    (S : jS) : Option (Int32 × jS) :=
  jpt S 41 18 0 (fun S1 =>
  some ((S.1 41 18), S1))
def f_X12_clear  (S : jS) : Option (Int32 × jS) := f_X12_clear_e  S
def f_X11_clear_e    (S : jS) : Option (Int32 × jS) :=
  jpt S 18 1 0 (fun S1 =>
  some ((S.1 18 1), S1))
def f_X11_clear  (S : jS) : Option (Int32 × jS) := f_X11_clear_e  S
def f_X12_isSmall_e   (x0 : Int32) (S : jS) : Option (Int32 × jS) :=
  jcl (f_X12_in x0.toInt64 97 122 S) (fun v2 S1 =>
  jzr v2 S1)
def f_X12_isSmall (x0 : Int32) (S : jS) : Option (Int32 × jS) := f_X12_isSmall_e x0 S
def f_X12_isFigure_e   (x0 : Int32) (S : jS) : Option (Int32 × jS) :=
  jcl (f_X12_in x0.toInt64 48 57 S) (fun v2 S1 =>
  jzr v2 S1)
def f_X12_isFigure (x0 : Int32) (S : jS) : Option (Int32 × jS) := f_X12_isFigure_e x0 S
def f_X12_lookAt_5  (g : jS → Option (jS)) (k43 : jS → Option (jS))  (S : jS) : Option (jS) :=
  if (S.1 41 19) < (S.1 41 18) then
    jld S 53 (S.1 41 19) 150 (fun v1 =>
    if v1 = 32 then
      jpt S 41 19 ((S.1 41 19) + 1) (fun S2 =>
      g  S2)
    else
      k43  S)
  else
    k43  S
def lp_X12_lookAt_5  (k43 : jS → Option (jS))  (S : jS) : Option (jS) := jloop (α := jS) (fun g q => f_X12_lookAt_5  (fun  S => g (S)) k43  q) jN (S)
def f_X12_lookAt_208  (g : Int32 → jS → Option (jS)) (k215 : jS → Option (jS)) (a0 : Int32) (a1 : Int32) (x3 : Int32) (S : jS) : Option (jS) :=
  jpt S 41 20 (a1 + a0) (fun S1 =>
  g x3 S1)
def f_X12_lookAt_193  (g : Int32 → jS → Option (jS)) (k215 : jS → Option (jS)) (a0 : Int32) (S : jS) : Option (jS) :=
  if a0 = 0 then
    f_X12_lookAt_208  g k215 0 (S.1 41 20) a0 S
  else
    f_X12_lookAt_208  g k215 1 (S.1 41 20) a0 S
def f_X12_lookAt_136  (g : Int32 → jS → Option (jS)) (k215 : jS → Option (jS)) (x3 : Int32) (S : jS) : Option (jS) :=
  if x3 = 0 then
    k215  S
  else
    if ((S.1 41 19) + (S.1 41 20)) < (S.1 41 18) then
      jld S 53 ((S.1 41 19) + (S.1 41 20)) 150 (fun v1 =>
      if (S.1 41 21) = 1 then
        jcl (f_X12_isSmall v1 S) (fun v5 S4 =>
        f_X12_lookAt_193  g k215 v5 S4)
      else
        jcl (f_X12_isFigure v1 S) (fun v3 S2 =>
        f_X12_lookAt_193  g k215 v3 S2))
    else
      k215  S
def lp_X12_lookAt_136  (k215 : jS → Option (jS)) (x3 : Int32) (S : jS) : Option (jS) := jloop (α := Int32 × jS) (fun g q => f_X12_lookAt_136  (fun x3 S => g (x3, S)) k215 q.1 q.2) jN (x3, S)
def f_X12_lookAt_218  (g : Int32 → jS → Option (jS)) (k274 : jS → Option (jS)) (x4 : Int32) (S : jS) : Option (jS) :=
  if x4 < (S.1 41 20) then
    if x4 < 3 then
      if (S.1 41 21) = 2 then
        jld S 53 ((S.1 41 19) + x4) 150 (fun v1 =>
        jpt S 41 22 (((10 * (S.1 41 22)) + v1) - 48) (fun S2 =>
        g (x4 + 1) S2))
      else
        k274  S
    else
      k274  S
  else
    k274  S
def lp_X12_lookAt_218  (k274 : jS → Option (jS)) (x4 : Int32) (S : jS) : Option (jS) := jloop (α := Int32 × jS) (fun g q => f_X12_lookAt_218  (fun x4 S => g (x4, S)) k274 q.1 q.2) jN (x4, S)
def f_X12_lookAt_299   (a0 : Int32) (S : jS) : Option (jS) :=
  jpt S 41 21 a0 (fun S1 =>
  some S1)
def f_X12_lookAt_295    (S : jS) : Option (jS) :=
  f_X12_lookAt_299   (S.1 41 21) S
def f_X12_lookAt_274    (S : jS) : Option (jS) :=
  if (S.1 41 21) = 2 then
    if 3 < (S.1 41 20) then
      f_X12_lookAt_299   4 S
    else
      f_X12_lookAt_295    S
  else
    f_X12_lookAt_295    S
def f_X12_lookAt_215    (S : jS) : Option (jS) :=
  lp_X12_lookAt_218  (f_X12_lookAt_274) 0 S
def f_X12_lookAt_135   (a0 : Int32) (S : jS) : Option (jS) :=
  lp_X12_lookAt_136  (f_X12_lookAt_215) a0 S
def f_X12_lookAt_114   (a0 : Int32) (S : jS) : Option (jS) :=
  jpt S 41 21 a0 (fun S1 =>
  jpt S1 41 20 1 (fun S2 =>
  if (S2.1 41 21) < 3 then
    f_X12_lookAt_135   1 S2
  else
    f_X12_lookAt_135   0 S2))
def f_X12_lookAt_43    (S : jS) : Option (jS) :=
  jpt S 41 20 0 (fun S1 =>
  jpt S1 41 21 0 (fun S2 =>
  jpt S2 41 22 0 (fun S3 =>
  if (S3.1 41 19) = (S3.1 41 18) then
    some S3
  else
    jld S3 53 (S3.1 41 19) 150 (fun v4 =>
    jcl (f_X12_isSmall v4 S3) (fun v6 S5 =>
    if v6 = 0 then
      jcl (f_X12_isFigure v4 S5) (fun v8 S7 =>
      if v8 = 0 then
        if v4 = 59 then
          f_X12_lookAt_114   3 S7
        else
          f_X12_lookAt_114   4 S7
      else
        f_X12_lookAt_114   2 S7)
    else
      f_X12_lookAt_114   1 S5)))))
def f_X12_lookAt_e   (x1 : Int32) (S : jS) : Option (jS) :=
  jpt S 41 19 x1 (fun S1 =>
  lp_X12_lookAt_5  (f_X12_lookAt_43)  S1)
def f_X12_lookAt (x1 : Int32) (S : jS) : Option (jS) := f_X12_lookAt_e x1 S
def f_X12_isWord_111  (g : Int32 → Int32 → Int32 → Int32 → Int32 → Int32 → Int32 → Int32 → Int32 → jS → Option (Int32 × jS)) (k119 : Int32 → jS → Option (Int32 × jS)) (a0 : Int32) (x1 : Int32) (x2 : Int32) (x3 : Int32) (x4 : Int32) (x5 : Int32) (x6 : Int32) (x7 : Int32) (x9 : Int32) (S : jS) : Option (Int32 × jS) :=
  g x1 x2 x3 x4 x5 x6 x7 a0 (x9 + 1) S
def f_X12_isWord_103  (g : Int32 → Int32 → Int32 → Int32 → Int32 → Int32 → Int32 → Int32 → Int32 → jS → Option (Int32 × jS)) (k119 : Int32 → jS → Option (Int32 × jS)) (a0 : Int32) (a1 : Int32) (x1 : Int32) (x2 : Int32) (x3 : Int32) (x4 : Int32) (x5 : Int32) (x6 : Int32) (x7 : Int32) (x9 : Int32) (S : jS) : Option (Int32 × jS) :=
  if a1 = a0 then
    f_X12_isWord_111  g k119 1 x1 x2 x3 x4 x5 x6 x7 x9 S
  else
    f_X12_isWord_111  g k119 0 x1 x2 x3 x4 x5 x6 x7 x9 S
def f_X12_isWord_26  (g : Int32 → Int32 → Int32 → Int32 → Int32 → Int32 → Int32 → Int32 → Int32 → jS → Option (Int32 × jS)) (k119 : Int32 → jS → Option (Int32 × jS)) (x1 : Int32) (x2 : Int32) (x3 : Int32) (x4 : Int32) (x5 : Int32) (x6 : Int32) (x7 : Int32) (x8 : Int32) (x9 : Int32) (S : jS) : Option (Int32 × jS) :=
  if x9 < x1 then
    if x8 = 0 then
      k119 x8 S
    else
      jld S 53 ((S.1 41 19) + x9) 150 (fun v1 =>
      if x9 = 0 then
        f_X12_isWord_103  g k119 x2 v1 x1 x2 x3 x4 x5 x6 x7 x9 S
      else
        if x9 = 1 then
          f_X12_isWord_103  g k119 x3 v1 x1 x2 x3 x4 x5 x6 x7 x9 S
        else
          if x9 = 2 then
            f_X12_isWord_103  g k119 x4 v1 x1 x2 x3 x4 x5 x6 x7 x9 S
          else
            if x9 = 3 then
              f_X12_isWord_103  g k119 x5 v1 x1 x2 x3 x4 x5 x6 x7 x9 S
            else
              if x9 = 4 then
                f_X12_isWord_103  g k119 x6 v1 x1 x2 x3 x4 x5 x6 x7 x9 S
              else
                f_X12_isWord_103  g k119 x7 v1 x1 x2 x3 x4 x5 x6 x7 x9 S)
  else
    k119 x8 S
def lp_X12_isWord_26  (k119 : Int32 → jS → Option (Int32 × jS)) (x1 : Int32) (x2 : Int32) (x3 : Int32) (x4 : Int32) (x5 : Int32) (x6 : Int32) (x7 : Int32) (x8 : Int32) (x9 : Int32) (S : jS) : Option (Int32 × jS) := jloop (α := Int32 × Int32 × Int32 × Int32 × Int32 × Int32 × Int32 × Int32 × Int32 × jS) (fun g q => f_X12_isWord_26  (fun x1 x2 x3 x4 x5 x6 x7 x8 x9 S => g (x1, x2, x3, x4, x5, x6, x7, x8, x9, S)) k119 q.1 q.2.1 q.2.2.1 q.2.2.2.1 q.2.2.2.2.1 q.2.2.2.2.2.1 q.2.2.2.2.2.2.1 q.2.2.2.2.2.2.2.1 q.2.2.2.2.2.2.2.2.1 q.2.2.2.2.2.2.2.2.2) jN (x1, x2, x3, x4, x5, x6, x7, x8, x9, S)
def f_X12_isWord_119   (x8 : Int32) (S : jS) : Option (Int32 × jS) :=
  jzr x8 S
def f_X12_isWord_21   (a0 : Int32) (x1 : Int32) (x2 : Int32) (x3 : Int32) (x4 : Int32) (x5 : Int32) (x6 : Int32) (x7 : Int32) (S : jS) : Option (Int32 × jS) :=
  lp_X12_isWord_26  (f_X12_isWord_119) x1 x2 x3 x4 x5 x6 x7 a0 0 S
def f_X12_isWord_20   (x1 : Int32) (x2 : Int32) (x3 : Int32) (x4 : Int32) (x5 : Int32) (x6 : Int32) (x7 : Int32) (S : jS) : Option (Int32 × jS) :=
  f_X12_isWord_21   0 x1 x2 x3 x4 x5 x6 x7 S
def f_X12_isWord_e   (x1 : Int32) (x2 : Int32) (x3 : Int32) (x4 : Int32) (x5 : Int32) (x6 : Int32) (x7 : Int32) (S : jS) : Option (Int32 × jS) :=
  if (S.1 41 21) = 1 then
    if (S.1 41 20) = x1 then
      f_X12_isWord_21   1 x1 x2 x3 x4 x5 x6 x7 S
    else
      f_X12_isWord_20   x1 x2 x3 x4 x5 x6 x7 S
  else
    f_X12_isWord_20   x1 x2 x3 x4 x5 x6 x7 S
def f_X12_isWord (x1 : Int32) (x2 : Int32) (x3 : Int32) (x4 : Int32) (x5 : Int32) (x6 : Int32) (x7 : Int32) (S : jS) : Option (Int32 × jS) := f_X12_isWord_e x1 x2 x3 x4 x5 x6 x7 S
def f_X12_goBehind_e    (S : jS) : Option (jS) :=
  jcv (f_X12_lookAt ((S.1 41 19) + (S.1 41 20)) S) (fun S1 =>
  some S1)
def f_X12_goBehind  (S : jS) : Option (jS) := f_X12_goBehind_e  S
def f_X12_takes_23    (S : jS) : Option (Int32 × jS) :=
  jzr 0 S
def f_X12_takes_e   (x1 : Int32) (x2 : Int32) (x3 : Int32) (S : jS) : Option (Int32 × jS) :=
  if (S.1 41 21) = 2 then
    jcl (f_X12_in (((S.1 41 22) : Int32).toInt64) x2.toInt64 x3.toInt64 S) (fun v2 S1 =>
    if v2 = 0 then
      f_X12_takes_23    S1
    else
      jst S1 55 x1 2 (S1.1 41 22) (fun S3 =>
      jcv (f_X12_goBehind  S3) (fun S4 =>
      jzr 1 S4)))
  else
    f_X12_takes_23    S
def f_X12_takes (x1 : Int32) (x2 : Int32) (x3 : Int32) (S : jS) : Option (Int32 × jS) := f_X12_takes_e x1 x2 x3 S
def f_X12_begin_r54_2  (g : Int32 → Int32 → Int32 → jS → Option (jS)) (k18 : Int32 → Int32 → jS → Option (jS)) (x1 : Int32) (x2 : Int32) (x3 : Int32) (S : jS) : Option (jS) :=
  if x3 < 69 then
    jst S 54 x3 69 0 (fun S1 =>
    g x1 x2 (x3 + 1) S1)
  else
    k18 x1 x2 S
def lp_X12_begin_r54_2  (k18 : Int32 → Int32 → jS → Option (jS)) (x1 : Int32) (x2 : Int32) (x3 : Int32) (S : jS) : Option (jS) := jloop (α := Int32 × Int32 × Int32 × jS) (fun g q => f_X12_begin_r54_2  (fun x1 x2 x3 S => g (x1, x2, x3, S)) k18 q.1 q.2.1 q.2.2.1 q.2.2.2) jN (x1, x2, x3, S)
def f_X12_begin_r54_18   (x1 : Int32) (x2 : Int32) (S : jS) : Option (jS) :=
  jst S 54 8 69 x1 (fun S1 =>
  jst S1 54 9 69 x2 (fun S2 =>
  some S2))
def f_X12_begin_r54_e   (x1 : Int32) (x2 : Int32) (S : jS) : Option (jS) :=
  lp_X12_begin_r54_2  (f_X12_begin_r54_18) x1 x2 0 S
def f_X12_begin_r54 (x1 : Int32) (x2 : Int32) (S : jS) : Option (jS) := f_X12_begin_r54_e x1 x2 S
def f_X12_takesFirst_48    (S : jS) : Option (Int32 × jS) :=
  jzr 0 S
def f_X12_takesFirst_82   (a0 : Int32) (S : jS) : Option (Int32 × jS) :=
  jzr a0 S
def f_X12_takesFirst_e    (S : jS) : Option (Int32 × jS) :=
  jcl (f_X12_isWord 6 115 116 114 101 101 116 S) (fun v2 S1 =>
  if v2 = 0 then
    jzr 0 S1
  else
    jcv (f_X12_goBehind  S1) (fun S3 =>
    jcl (f_X12_takes 0 0 5 S3) (fun v5 S4 =>
    if v5 = 0 then
      f_X12_takesFirst_48    S4
    else
      jcl (f_X12_takes 1 0 9 S4) (fun v7 S6 =>
      if v7 = 0 then
        f_X12_takesFirst_48    S6
      else
        jld S6 55 0 2 (fun v8 =>
        jld S6 55 1 2 (fun v9 =>
        jcv (f_X12_begin_r54 v8 v9 S6) (fun S10 =>
        if (S10.1 41 21) = 3 then
          f_X12_takesFirst_82   1 S10
        else
          f_X12_takesFirst_82   0 S10)))))))
def f_X12_takesFirst  (S : jS) : Option (Int32 × jS) := f_X12_takesFirst_e  S
def f_X12_takesHouse_48    (S : jS) : Option (Int32 × jS) :=
  jzr 0 S
def f_X12_takesHouse_e    (S : jS) : Option (Int32 × jS) :=
  jcl (f_X12_isWord 5 104 111 117 115 101 0 S) (fun v2 S1 =>
  if v2 = 0 then
    jzr 0 S1
  else
    jcv (f_X12_goBehind  S1) (fun S3 =>
    jcl (f_X12_takes 0 0 7 S3) (fun v5 S4 =>
    if v5 = 0 then
      f_X12_takesHouse_48    S4
    else
      jcl (f_X12_takes 1 0 300 S4) (fun v7 S6 =>
      if v7 = 0 then
        f_X12_takesHouse_48    S6
      else
        jld S6 55 0 2 (fun v8 =>
        jld S6 55 1 2 (fun v9 =>
        jst S6 54 v8 69 v9 (fun S10 =>
        jzr 1 S10)))))))
def f_X12_takesHouse  (S : jS) : Option (Int32 × jS) := f_X12_takesHouse_e  S
def f_X12_read_26  (g : Int32 → jS → Option (Int32 × jS)) (k48 : jS → Option (Int32 × jS)) (k66 : Int32 → jS → Option (Int32 × jS)) (x1 : Int32) (S : jS) : Option (Int32 × jS) :=
  if (S.1 41 21) = 0 then
    k66 x1 S
  else
    jcl (f_X12_takesHouse  S) (fun v2 S1 =>
    if v2 = 0 then
      k48  S1
    else
      if (S1.1 41 21) = 3 then
        jcv (f_X12_goBehind  S1) (fun S3 =>
        g (x1 + 1) S3)
      else
        k48  S1)
def lp_X12_read_26  (k48 : jS → Option (Int32 × jS)) (k66 : Int32 → jS → Option (Int32 × jS)) (x1 : Int32) (S : jS) : Option (Int32 × jS) := jloop (α := Int32 × jS) (fun g q => f_X12_read_26  (fun x1 S => g (x1, S)) k48 k66 q.1 q.2) jN (x1, S)
def f_X12_read_48    (S : jS) : Option (Int32 × jS) :=
  some (((-10) - (S.1 41 19)), S)
def f_X12_read_68  (g : Int32 → Int32 → jS → Option (Int32 × jS)) (k92 : Int32 → jS → Option (Int32 × jS)) (x1 : Int32) (x2 : Int32) (S : jS) : Option (Int32 × jS) :=
  if x2 < 69 then
    jld S 54 x2 69 (fun v1 =>
    jst S 42 x2 149 v1 (fun S2 =>
    g x1 (x2 + 1) S2))
  else
    k92 x1 S
def lp_X12_read_68  (k92 : Int32 → jS → Option (Int32 × jS)) (x1 : Int32) (x2 : Int32) (S : jS) : Option (Int32 × jS) := jloop (α := Int32 × Int32 × jS) (fun g q => f_X12_read_68  (fun x1 x2 S => g (x1, x2, S)) k92 q.1 q.2.1 q.2.2) jN (x1, x2, S)
def f_X12_read_92   (x1 : Int32) (S : jS) : Option (Int32 × jS) :=
  some (x1, S)
def f_X12_read_66   (x1 : Int32) (S : jS) : Option (Int32 × jS) :=
  lp_X12_read_68  (f_X12_read_92) x1 0 S
def f_X12_read_e    (S : jS) : Option (Int32 × jS) :=
  jcv (f_X12_lookAt 0 S) (fun S1 =>
  jcl (f_X12_takesFirst  S1) (fun v3 S2 =>
  if v3 = 0 then
    some (((-10) - (S2.1 41 19)), S2)
  else
    jcv (f_X12_goBehind  S2) (fun S4 =>
    lp_X12_read_26  (f_X12_read_48) (f_X12_read_66) 1 S4)))
def f_X12_read  (S : jS) : Option (Int32 × jS) := f_X12_read_e  S
def f_X7_byteAt_29   (a0 : Int32) (S : jS) : Option (Int32 × jS) :=
  some (a0, S)
def f_X7_byteAt_28    (S : jS) : Option (Int32 × jS) :=
  f_X7_byteAt_29   (-1) S
def f_X7_byteAt_e   (x1 : Int32) (S : jS) : Option (Int32 × jS) :=
  if x1 < 0 then
    f_X7_byteAt_28    S
  else
    if x1 < (S.1 18 1) then
      if x1 < 150 then
        jld S 20 x1 150 (fun v1 =>
        f_X7_byteAt_29   v1 S)
      else
        f_X7_byteAt_28    S
    else
      f_X7_byteAt_28    S
def f_X7_byteAt (x1 : Int32) (S : jS) : Option (Int32 × jS) := f_X7_byteAt_e x1 S
def f_X7_isLetter_17   (a0 : Int32) (S : jS) : Option (Int32 × jS) :=
  jzr a0 S
def f_X7_isLetter_16    (S : jS) : Option (Int32 × jS) :=
  f_X7_isLetter_17   0 S
def f_X7_isLetter_e   (x0 : Int32) (S : jS) : Option (Int32 × jS) :=
  if x0 < 97 then
    f_X7_isLetter_16    S
  else
    if 122 < x0 then
      f_X7_isLetter_16    S
    else
      f_X7_isLetter_17   1 S
def f_X7_isLetter (x0 : Int32) (S : jS) : Option (Int32 × jS) := f_X7_isLetter_e x0 S
def f_X7_isFigure_17   (a0 : Int32) (S : jS) : Option (Int32 × jS) :=
  jzr a0 S
def f_X7_isFigure_16    (S : jS) : Option (Int32 × jS) :=
  f_X7_isFigure_17   0 S
def f_X7_isFigure_e   (x0 : Int32) (S : jS) : Option (Int32 × jS) :=
  if x0 < 48 then
    f_X7_isFigure_16    S
  else
    if 57 < x0 then
      f_X7_isFigure_16    S
    else
      f_X7_isFigure_17   1 S
def f_X7_isFigure (x0 : Int32) (S : jS) : Option (Int32 × jS) := f_X7_isFigure_e x0 S
def f_X7_passNumber_67  (g : jS → Option (jS)) (k83 : jS → Option (jS)) (a0 : Int32) (S : jS) : Option (jS) :=
  jpt S 18 9 a0 (fun S1 =>
  jpt S1 18 6 ((S1.1 18 6) + 1) (fun S2 =>
  g  S2))
def f_X7_passNumber_5  (g : jS → Option (jS)) (k83 : jS → Option (jS))  (S : jS) : Option (jS) :=
  if (S.1 18 6) < (S.1 18 1) then
    jcl (f_X7_byteAt (S.1 18 6) S) (fun v2 S1 =>
    jcl (f_X7_isFigure v2 S1) (fun v4 S3 =>
    if v4 = 0 then
      k83  S3
    else
      if ((S3.1 18 6) - (S3.1 18 8)) < 3 then
        jcl (f_X7_byteAt (S3.1 18 6) S3) (fun v6 S5 =>
        f_X7_passNumber_67  g k83 (((10 * (S3.1 18 9)) + v6) - 48) S5)
      else
        f_X7_passNumber_67  g k83 (-1) S3))
  else
    k83  S
def lp_X7_passNumber_5  (k83 : jS → Option (jS))  (S : jS) : Option (jS) := jloop (α := jS) (fun g q => f_X7_passNumber_5  (fun  S => g (S)) k83  q) jN (S)
def f_X7_passNumber_83    (S : jS) : Option (jS) :=
  some S
def f_X7_passNumber_e    (S : jS) : Option (jS) :=
  jpt S 18 9 0 (fun S1 =>
  lp_X7_passNumber_5  (f_X7_passNumber_83)  S1)
def f_X7_passNumber  (S : jS) : Option (jS) := f_X7_passNumber_e  S
def f_X7_passWord_0v1  (g : jS → Option (jS)) (k38 : jS → Option (jS))  (S : jS) : Option (jS) :=
  if (S.1 18 6) < (S.1 18 1) then
    jcl (f_X7_byteAt (S.1 18 6) S) (fun v2 S1 =>
    jcl (f_X7_isLetter v2 S1) (fun v4 S3 =>
    if v4 = 0 then
      k38  S3
    else
      jpt S3 18 6 ((S3.1 18 6) + 1) (fun S5 =>
      g  S5)))
  else
    k38  S
def lp_X7_passWord_0v1  (k38 : jS → Option (jS))  (S : jS) : Option (jS) := jloop (α := jS) (fun g q => f_X7_passWord_0v1  (fun  S => g (S)) k38  q) jN (S)
def f_X7_passWord_38    (S : jS) : Option (jS) :=
  some S
def f_X7_passWord_e    (S : jS) : Option (jS) :=
  lp_X7_passWord_0v1  (f_X7_passWord_38)  S
def f_X7_passWord  (S : jS) : Option (jS) := f_X7_passWord_e  S
def f_X7_scan_0v1  (g : jS → Option (jS)) (k37 : jS → Option (jS))  (S : jS) : Option (jS) :=
  if (S.1 18 6) < (S.1 18 1) then
    jcl (f_X7_byteAt (S.1 18 6) S) (fun v2 S1 =>
    if v2 = 32 then
      jpt S1 18 6 ((S1.1 18 6) + 1) (fun S3 =>
      g  S3)
    else
      k37  S1)
  else
    k37  S
def lp_X7_scan_0v1  (k37 : jS → Option (jS))  (S : jS) : Option (jS) := jloop (α := jS) (fun g q => f_X7_scan_0v1  (fun  S => g (S)) k37  q) jN (S)
def f_X7_scan_129    (S : jS) : Option (jS) :=
  some S
def f_X7_scan_116   (a0 : Int32) (S : jS) : Option (jS) :=
  jpt S 18 7 a0 (fun S1 =>
  jpt S1 18 6 ((S1.1 18 6) + 1) (fun S2 =>
  f_X7_scan_129    S2))
def f_X7_scan_37    (S : jS) : Option (jS) :=
  jpt S 18 8 (S.1 18 6) (fun S1 =>
  jcl (f_X7_byteAt (S1.1 18 6) S1) (fun v3 S2 =>
  if v3 < 0 then
    jpt S2 18 7 0 (fun S12 =>
    f_X7_scan_129    S12)
  else
    jcl (f_X7_isLetter v3 S2) (fun v5 S4 =>
    if v5 = 0 then
      jcl (f_X7_isFigure v3 S4) (fun v7 S6 =>
      if v7 = 0 then
        if v3 = 59 then
          f_X7_scan_116   3 S6
        else
          f_X7_scan_116   4 S6
      else
        jpt S6 18 7 2 (fun S8 =>
        jcv (f_X7_passNumber  S8) (fun S9 =>
        f_X7_scan_129    S9)))
    else
      jpt S4 18 7 1 (fun S10 =>
      jcv (f_X7_passWord  S10) (fun S11 =>
      f_X7_scan_129    S11)))))
def f_X7_scan_e    (S : jS) : Option (jS) :=
  lp_X7_scan_0v1  (f_X7_scan_37)  S
def f_X7_scan  (S : jS) : Option (jS) := f_X7_scan_e  S
def f_J0_coder_7d493_r100_14   (a0 : Int32) (S : jS) : Option (Int32 × jS) :=
  jbr a0 S
def f_J0_coder_7d493_r100_e    (S : jS) : Option (Int32 × jS) :=
  if (1 : Int32) = 0 then
    f_J0_coder_7d493_r100_14   1 S
  else
    f_J0_coder_7d493_r100_14   0 S
def f_J0_coder_7d493_r100  (S : jS) : Option (Int32 × jS) := f_J0_coder_7d493_r100_e  S
def f_J0_length_8abf5_r100_e    (S : jS) : Option (Int32 × jS) :=
  jcl (f_J0_coder_7d493_r100  S) (fun v2 S1 =>
  some ((6 >>> (v2 &&& 31)), S1))
def f_J0_length_8abf5_r100  (S : jS) : Option (Int32 × jS) := f_J0_length_8abf5_r100_e  S
def f_J0_isLatin1_aae02_r100_18   (a0 : Int32) (S : jS) : Option (Int32 × jS) :=
  jzr a0 S
def f_J0_isLatin1_aae02_r100_17    (S : jS) : Option (Int32 × jS) :=
  f_J0_isLatin1_aae02_r100_18   0 S
def f_J0_isLatin1_aae02_r100_e    (S : jS) : Option (Int32 × jS) :=
  if (1 : Int32) = 0 then
    f_J0_isLatin1_aae02_r100_17    S
  else
    if (0 : Int32) = 0 then
      f_J0_isLatin1_aae02_r100_18   1 S
    else
      f_J0_isLatin1_aae02_r100_17    S
def f_J0_isLatin1_aae02_r100  (S : jS) : Option (Int32 × jS) := f_J0_isLatin1_aae02_r100_e  S
def f_J0_checkIndex_df160 (x0 : Int32) (x1 : Int32) (S : jS) : Option (jS) := if x0 < 0 then none else if x0 < x1 then some S else none
def f_J1_charAt_3b067_r102_e   (x1 : Int32) (S : jS) : Option (Int32 × jS) :=
  jcv (f_J0_checkIndex_df160 x1 6 S) (fun S1 =>
  jlk (jby 0) x1 6 (fun v2 =>
  jcr ((((v2 &&& 255) : Int32).toUInt32 % 65536).toInt32) S1))
def f_J1_charAt_3b067_r102 (x1 : Int32) (S : jS) : Option (Int32 × jS) := f_J1_charAt_3b067_r102_e x1 S
def f_J0_charAt_5068e_r100_e   (x1 : Int32) (S : jS) : Option (Int32 × jS) :=
  jcl (f_J0_isLatin1_aae02_r100  S) (fun v2 S1 =>
  if v2 = 0 then
    none
  else
    jcl (f_J1_charAt_3b067_r102 x1 S1) (fun v4 S3 =>
    jcr v4 S3))
def f_J0_charAt_5068e_r100 (x1 : Int32) (S : jS) : Option (Int32 × jS) := f_J0_charAt_5068e_r100_e x1 S
def f_X7_tokenIs_r100_20  (g : Int32 → jS → Option (Int32 × jS)) (k46 : jS → Option (Int32 × jS)) (k54 : jS → Option (Int32 × jS)) (x2 : Int32) (S : jS) : Option (Int32 × jS) :=
  jcl (f_J0_length_8abf5_r100  S) (fun v2 S1 =>
  if x2 < v2 then
    jcl (f_X7_byteAt ((S1.1 18 8) + x2) S1) (fun v4 S3 =>
    jcl (f_J0_charAt_5068e_r100 x2 S3) (fun v6 S5 =>
    if v4 = v6 then
      g (x2 + 1) S5
    else
      k46  S5))
  else
    k54  S1)
def lp_X7_tokenIs_r100_20  (k46 : jS → Option (Int32 × jS)) (k54 : jS → Option (Int32 × jS)) (x2 : Int32) (S : jS) : Option (Int32 × jS) := jloop (α := Int32 × jS) (fun g q => f_X7_tokenIs_r100_20  (fun x2 S => g (x2, S)) k46 k54 q.1 q.2) jN (x2, S)
def f_X7_tokenIs_r100_46    (S : jS) : Option (Int32 × jS) :=
  jzr 0 S
def f_X7_tokenIs_r100_54    (S : jS) : Option (Int32 × jS) :=
  jzr 1 S
def f_X7_tokenIs_r100_e    (S : jS) : Option (Int32 × jS) :=
  jcl (f_J0_length_8abf5_r100  S) (fun v2 S1 =>
  if ((S.1 18 6) - (S.1 18 8)) = v2 then
    lp_X7_tokenIs_r100_20  (f_X7_tokenIs_r100_46) (f_X7_tokenIs_r100_54) 0 S1
  else
    jzr 0 S1)
def f_X7_tokenIs_r100  (S : jS) : Option (Int32 × jS) := f_X7_tokenIs_r100_e  S
def f_X7_expectWord_r100_24    (S : jS) : Option (jS) :=
  some S
def f_X7_expectWord_r100_16    (S : jS) : Option (jS) :=
  jpt S 18 4 (S.1 18 8) (fun S1 =>
  f_X7_expectWord_r100_24    S1)
def f_X7_expectWord_r100_e    (S : jS) : Option (jS) :=
  if (S.1 18 7) = 1 then
    jcl (f_X7_tokenIs_r100  S) (fun v2 S1 =>
    if v2 = 0 then
      f_X7_expectWord_r100_16    S1
    else
      f_X7_expectWord_r100_24    S1)
  else
    f_X7_expectWord_r100_16    S
def f_X7_expectWord_r100  (S : jS) : Option (jS) := f_X7_expectWord_r100_e  S
def f_X7_expectNumber_37    (S : jS) : Option (Int32 × jS) :=
  jpt S 18 4 (S.1 18 8) (fun S1 =>
  some (0, S1))
def f_X7_expectNumber_e   (x1 : Int32) (S : jS) : Option (Int32 × jS) :=
  if (S.1 18 4) = (-1) then
    jcv (f_X7_scan  S) (fun S1 =>
    if (S1.1 18 7) = 2 then
      if (S1.1 18 9) < 0 then
        f_X7_expectNumber_37    S1
      else
        if x1 < (S1.1 18 9) then
          f_X7_expectNumber_37    S1
        else
          some ((S1.1 18 9), S1)
    else
      f_X7_expectNumber_37    S1)
  else
    some (0, S)
def f_X7_expectNumber (x1 : Int32) (S : jS) : Option (Int32 × jS) := f_X7_expectNumber_e x1 S
def f_X7_expectStop_29    (S : jS) : Option (jS) :=
  some S
def f_X7_expectStop_e    (S : jS) : Option (jS) :=
  if (S.1 18 4) = (-1) then
    jcv (f_X7_scan  S) (fun S1 =>
    if (S1.1 18 7) = 3 then
      f_X7_expectStop_29    S1
    else
      jpt S1 18 4 (S1.1 18 8) (fun S2 =>
      f_X7_expectStop_29    S2))
  else
    some S
def f_X7_expectStop  (S : jS) : Option (jS) := f_X7_expectStop_e  S
def f_X7_parseStreet_e    (S : jS) : Option (jS) :=
  jcv (f_X7_expectWord_r100  S) (fun S1 =>
  jcl (f_X7_expectNumber 5 S1) (fun v3 S2 =>
  jcl (f_X7_expectNumber 9 S2) (fun v5 S4 =>
  jcv (f_X7_expectStop  S4) (fun S6 =>
  jpt S6 18 2 ((10 * v3) + v5) (fun S7 =>
  jpt S7 18 3 ((S7.1 18 3) + 1) (fun S8 =>
  some S8))))))
def f_X7_parseStreet  (S : jS) : Option (jS) := f_X7_parseStreet_e  S
def f_J0_coder_7d493_r101_14   (a0 : Int32) (S : jS) : Option (Int32 × jS) :=
  jbr a0 S
def f_J0_coder_7d493_r101_e    (S : jS) : Option (Int32 × jS) :=
  if (1 : Int32) = 0 then
    f_J0_coder_7d493_r101_14   1 S
  else
    f_J0_coder_7d493_r101_14   0 S
def f_J0_coder_7d493_r101  (S : jS) : Option (Int32 × jS) := f_J0_coder_7d493_r101_e  S
def f_J0_length_8abf5_r101_e    (S : jS) : Option (Int32 × jS) :=
  jcl (f_J0_coder_7d493_r101  S) (fun v2 S1 =>
  some ((5 >>> (v2 &&& 31)), S1))
def f_J0_length_8abf5_r101  (S : jS) : Option (Int32 × jS) := f_J0_length_8abf5_r101_e  S
def f_J0_isLatin1_aae02_r101_18   (a0 : Int32) (S : jS) : Option (Int32 × jS) :=
  jzr a0 S
def f_J0_isLatin1_aae02_r101_17    (S : jS) : Option (Int32 × jS) :=
  f_J0_isLatin1_aae02_r101_18   0 S
def f_J0_isLatin1_aae02_r101_e    (S : jS) : Option (Int32 × jS) :=
  if (1 : Int32) = 0 then
    f_J0_isLatin1_aae02_r101_17    S
  else
    if (0 : Int32) = 0 then
      f_J0_isLatin1_aae02_r101_18   1 S
    else
      f_J0_isLatin1_aae02_r101_17    S
def f_J0_isLatin1_aae02_r101  (S : jS) : Option (Int32 × jS) := f_J0_isLatin1_aae02_r101_e  S
def f_J1_charAt_3b067_r103_e   (x1 : Int32) (S : jS) : Option (Int32 × jS) :=
  jcv (f_J0_checkIndex_df160 x1 5 S) (fun S1 =>
  jlk (jby 1) x1 5 (fun v2 =>
  jcr ((((v2 &&& 255) : Int32).toUInt32 % 65536).toInt32) S1))
def f_J1_charAt_3b067_r103 (x1 : Int32) (S : jS) : Option (Int32 × jS) := f_J1_charAt_3b067_r103_e x1 S
def f_J0_charAt_5068e_r101_e   (x1 : Int32) (S : jS) : Option (Int32 × jS) :=
  jcl (f_J0_isLatin1_aae02_r101  S) (fun v2 S1 =>
  if v2 = 0 then
    none
  else
    jcl (f_J1_charAt_3b067_r103 x1 S1) (fun v4 S3 =>
    jcr v4 S3))
def f_J0_charAt_5068e_r101 (x1 : Int32) (S : jS) : Option (Int32 × jS) := f_J0_charAt_5068e_r101_e x1 S
def f_X7_tokenIs_r101_20  (g : Int32 → jS → Option (Int32 × jS)) (k46 : jS → Option (Int32 × jS)) (k54 : jS → Option (Int32 × jS)) (x2 : Int32) (S : jS) : Option (Int32 × jS) :=
  jcl (f_J0_length_8abf5_r101  S) (fun v2 S1 =>
  if x2 < v2 then
    jcl (f_X7_byteAt ((S1.1 18 8) + x2) S1) (fun v4 S3 =>
    jcl (f_J0_charAt_5068e_r101 x2 S3) (fun v6 S5 =>
    if v4 = v6 then
      g (x2 + 1) S5
    else
      k46  S5))
  else
    k54  S1)
def lp_X7_tokenIs_r101_20  (k46 : jS → Option (Int32 × jS)) (k54 : jS → Option (Int32 × jS)) (x2 : Int32) (S : jS) : Option (Int32 × jS) := jloop (α := Int32 × jS) (fun g q => f_X7_tokenIs_r101_20  (fun x2 S => g (x2, S)) k46 k54 q.1 q.2) jN (x2, S)
def f_X7_tokenIs_r101_46    (S : jS) : Option (Int32 × jS) :=
  jzr 0 S
def f_X7_tokenIs_r101_54    (S : jS) : Option (Int32 × jS) :=
  jzr 1 S
def f_X7_tokenIs_r101_e    (S : jS) : Option (Int32 × jS) :=
  jcl (f_J0_length_8abf5_r101  S) (fun v2 S1 =>
  if ((S.1 18 6) - (S.1 18 8)) = v2 then
    lp_X7_tokenIs_r101_20  (f_X7_tokenIs_r101_46) (f_X7_tokenIs_r101_54) 0 S1
  else
    jzr 0 S1)
def f_X7_tokenIs_r101  (S : jS) : Option (Int32 × jS) := f_X7_tokenIs_r101_e  S
def f_X7_expectWord_r101_24    (S : jS) : Option (jS) :=
  some S
def f_X7_expectWord_r101_16    (S : jS) : Option (jS) :=
  jpt S 18 4 (S.1 18 8) (fun S1 =>
  f_X7_expectWord_r101_24    S1)
def f_X7_expectWord_r101_e    (S : jS) : Option (jS) :=
  if (S.1 18 7) = 1 then
    jcl (f_X7_tokenIs_r101  S) (fun v2 S1 =>
    if v2 = 0 then
      f_X7_expectWord_r101_16    S1
    else
      f_X7_expectWord_r101_24    S1)
  else
    f_X7_expectWord_r101_16    S
def f_X7_expectWord_r101  (S : jS) : Option (jS) := f_X7_expectWord_r101_e  S
def f_X7_parseHouse_39    (S : jS) : Option (jS) :=
  jpt S 18 3 ((S.1 18 3) + 1) (fun S1 =>
  some S1)
def f_X7_parseHouse_e    (S : jS) : Option (jS) :=
  jcv (f_X7_expectWord_r101  S) (fun S1 =>
  jcl (f_X7_expectNumber 7 S1) (fun v3 S2 =>
  jcl (f_X7_expectNumber 300 S2) (fun v5 S4 =>
  jcv (f_X7_expectStop  S4) (fun S6 =>
  jcl (f_X11_isHouse v3 S6) (fun v8 S7 =>
  if v8 = 0 then
    f_X7_parseHouse_39    S7
  else
    jst S7 19 v3 8 v5 (fun S9 =>
    f_X7_parseHouse_39    S9))))))
def f_X7_parseHouse  (S : jS) : Option (jS) := f_X7_parseHouse_e  S
def f_X7_parse_17  (g : Int32 → jS → Option (jS)) (k36 : jS → Option (jS)) (x1 : Int32) (S : jS) : Option (jS) :=
  if x1 < 8 then
    jst S 19 x1 8 0 (fun S1 =>
    g (x1 + 1) S1)
  else
    k36  S
def lp_X7_parse_17  (k36 : jS → Option (jS)) (x1 : Int32) (S : jS) : Option (jS) := jloop (α := Int32 × jS) (fun g q => f_X7_parse_17  (fun x1 S => g (x1, S)) k36 q.1 q.2) jN (x1, S)
def f_X7_parse_46  (g : Int32 → jS → Option (jS)) (k72 : jS → Option (jS)) (k83 : jS → Option (jS)) (x1 : Int32) (S : jS) : Option (jS) :=
  if x1 < 150 then
    if (S.1 18 4) = (-1) then
      jcv (f_X7_scan  S) (fun S1 =>
      if (S1.1 18 7) = 0 then
        k72  S1
      else
        jcv (f_X7_parseHouse  S1) (fun S2 =>
        g (x1 + 1) S2))
    else
      k83  S
  else
    k83  S
def lp_X7_parse_46  (k72 : jS → Option (jS)) (k83 : jS → Option (jS)) (x1 : Int32) (S : jS) : Option (jS) := jloop (α := Int32 × jS) (fun g q => f_X7_parse_46  (fun x1 S => g (x1, S)) k72 k83 q.1 q.2) jN (x1, S)
def f_X7_parse_72    (S : jS) : Option (jS) :=
  some S
def f_X7_parse_83    (S : jS) : Option (jS) :=
  some S
def f_X7_parse_36    (S : jS) : Option (jS) :=
  jcv (f_X7_scan  S) (fun S1 =>
  jcv (f_X7_parseStreet  S1) (fun S2 =>
  lp_X7_parse_46  (f_X7_parse_72) (f_X7_parse_83) 0 S2))
def f_X7_parse_e    (S : jS) : Option (jS) :=
  jpt S 18 4 (-1) (fun S1 =>
  jpt S1 18 3 0 (fun S2 =>
  jpt S2 18 6 0 (fun S3 =>
  lp_X7_parse_17  (f_X7_parse_36) 0 S3)))
def f_X7_parse  (S : jS) : Option (jS) := f_X7_parse_e  S
def f_X11_read_e    (S : jS) : Option (Int32 × jS) :=
  jcv (f_X7_parse  S) (fun S1 =>
  if (S1.1 18 4) = (-1) then
    jcv (f_X10_begin (S1.1 18 2) S1) (fun S2 =>
    jcp S2 19 8 0 22 8 0 8 (fun S3 =>
    some ((S3.1 18 3), S3)))
  else
    some (((-10) - (S1.1 18 4)), S1))
def f_X11_read  (S : jS) : Option (Int32 × jS) := f_X11_read_e  S
def f_X12_layHand_2  (g : Int32 → jS → Option (jS)) (k26 : jS → Option (jS)) (x1 : Int32) (S : jS) : Option (jS) :=
  if x1 < 8 then
    jld S 42 x1 149 (fun v1 =>
    jst S 47 x1 8 v1 (fun S2 =>
    g (x1 + 1) S2))
  else
    k26  S
def lp_X12_layHand_2  (k26 : jS → Option (jS)) (x1 : Int32) (S : jS) : Option (jS) := jloop (α := Int32 × jS) (fun g q => f_X12_layHand_2  (fun x1 S => g (x1, S)) k26 q.1 q.2) jN (x1, S)
def f_X12_layHand_26    (S : jS) : Option (jS) :=
  some S
def f_X12_layHand_e    (S : jS) : Option (jS) :=
  lp_X12_layHand_2  (f_X12_layHand_26) 0 S
def f_X12_layHand  (S : jS) : Option (jS) := f_X12_layHand_e  S
def f_X12_isPrime_15   (a0 : Int32) (S : jS) : Option (Int32 × jS) :=
  jzr a0 S
def f_X12_isPrime_e   (x1 : Int32) (S : jS) : Option (Int32 × jS) :=
  jld S 46 x1 301 (fun v1 =>
  if v1 = 1 then
    f_X12_isPrime_15   1 S
  else
    f_X12_isPrime_15   0 S)
def f_X12_isPrime (x1 : Int32) (S : jS) : Option (Int32 × jS) := f_X12_isPrime_e x1 S
def f_X12_isSquare_2  (g : Int32 → Int32 → jS → Option (Int32 × jS)) (k15 : Int32 → Int32 → jS → Option (Int32 × jS)) (x0 : Int32) (x1 : Int32) (S : jS) : Option (Int32 × jS) :=
  if (x1 * x1) < x0 then
    g x0 (x1 + 1) S
  else
    k15 x0 x1 S
def lp_X12_isSquare_2  (k15 : Int32 → Int32 → jS → Option (Int32 × jS)) (x0 : Int32) (x1 : Int32) (S : jS) : Option (Int32 × jS) := jloop (α := Int32 × Int32 × jS) (fun g q => f_X12_isSquare_2  (fun x0 x1 S => g (x0, x1, S)) k15 q.1 q.2.1 q.2.2) jN (x0, x1, S)
def f_X12_isSquare_27   (a0 : Int32) (S : jS) : Option (Int32 × jS) :=
  jzr a0 S
def f_X12_isSquare_15   (x0 : Int32) (x1 : Int32) (S : jS) : Option (Int32 × jS) :=
  if (x1 * x1) = x0 then
    f_X12_isSquare_27   1 S
  else
    f_X12_isSquare_27   0 S
def f_X12_isSquare_e   (x0 : Int32) (S : jS) : Option (Int32 × jS) :=
  lp_X12_isSquare_2  (f_X12_isSquare_15) x0 1 S
def f_X12_isSquare (x0 : Int32) (S : jS) : Option (Int32 × jS) := f_X12_isSquare_e x0 S
def f_X12_isPair_35   (a0 : Int32) (S : jS) : Option (Int32 × jS) :=
  jzr a0 S
def f_X12_isPair_34    (S : jS) : Option (Int32 × jS) :=
  f_X12_isPair_35   0 S
def f_X12_isPair_e   (x1 : Int32) (S : jS) : Option (Int32 × jS) :=
  if x1 < 0 then
    f_X12_isPair_34    S
  else
    if x1 < 7 then
      jld S 47 x1 8 (fun v1 =>
      if 0 < v1 then
        jld S 47 (x1 + 1) 8 (fun v2 =>
        if 0 < v2 then
          f_X12_isPair_35   1 S
        else
          f_X12_isPair_34    S)
      else
        f_X12_isPair_34    S)
    else
      f_X12_isPair_34    S
def f_X12_isPair (x1 : Int32) (S : jS) : Option (Int32 × jS) := f_X12_isPair_e x1 S
def f_X12_divides_11   (a0 : Int32) (S : jS) : Option (Int32 × jS) :=
  jzr a0 S
def f_X12_divides_e   (x0 : Int32) (x1 : Int32) (S : jS) : Option (Int32 × jS) :=
  jrm x1 x0 (fun v1 =>
  if v1 = 0 then
    f_X12_divides_11   1 S
  else
    f_X12_divides_11   0 S)
def f_X12_divides (x0 : Int32) (x1 : Int32) (S : jS) : Option (Int32 × jS) := f_X12_divides_e x0 x1 S
def f_X12_mayBy_147   (a0 : Int32) (S : jS) : Option (Int32 × jS) :=
  jzr a0 S
def f_X12_mayBy_142    (S : jS) : Option (Int32 × jS) :=
  f_X12_mayBy_147   1 S
def f_X12_mayBy_146    (S : jS) : Option (Int32 × jS) :=
  f_X12_mayBy_147   0 S
def f_X12_mayBy_174   (a0 : Int32) (S : jS) : Option (Int32 × jS) :=
  jzr a0 S
def f_X12_mayBy_173    (S : jS) : Option (Int32 × jS) :=
  f_X12_mayBy_174   0 S
def f_X12_mayBy_169    (S : jS) : Option (Int32 × jS) :=
  f_X12_mayBy_174   1 S
def f_X12_mayBy_207   (a0 : Int32) (S : jS) : Option (Int32 × jS) :=
  jzr a0 S
def f_X12_mayBy_202    (S : jS) : Option (Int32 × jS) :=
  f_X12_mayBy_207   1 S
def f_X12_mayBy_206    (S : jS) : Option (Int32 × jS) :=
  f_X12_mayBy_207   0 S
def f_X12_mayBy_79   (a0 : Int32) (x1 : Int32) (x2 : Int32) (x3 : Int32) (x4 : Int32) (x5 : Int32) (x6 : Int32) (S : jS) : Option (Int32 × jS) :=
  if x1 = 1 then
    jzr x6 S
  else
  if x1 = 2 then
    jzr a0 S
  else
  if x1 = 3 then
    if x6 = 0 then
      jcl (f_X12_isSquare x3 S) (fun v2 S1 =>
      if v2 = 0 then
        f_X12_mayBy_146    S1
      else
        jcl (f_X12_isSquare x4 S1) (fun v4 S3 =>
        if v4 = 0 then
          f_X12_mayBy_146    S3
        else
          f_X12_mayBy_142    S3))
    else
      f_X12_mayBy_142    S
  else
  if x1 = 4 then
    if x5 = 0 then
      f_X12_mayBy_173    S
    else
      if (x3 - x4) < x2 then
        if (x4 - x3) < x2 then
          f_X12_mayBy_173    S
        else
          f_X12_mayBy_169    S
      else
        f_X12_mayBy_169    S
  else
  if x1 = 5 then
    if a0 = 0 then
      jld S 46 x3 301 (fun v5 =>
      if v5 = x4 then
        jld S 46 x4 301 (fun v6 =>
        if v6 = x3 then
          f_X12_mayBy_202    S
        else
          f_X12_mayBy_206    S)
      else
        f_X12_mayBy_206    S)
    else
      f_X12_mayBy_202    S
  else
    jzr x5 S
def f_X12_mayBy_78   (x1 : Int32) (x2 : Int32) (x3 : Int32) (x4 : Int32) (x5 : Int32) (x6 : Int32) (S : jS) : Option (Int32 × jS) :=
  f_X12_mayBy_79   0 x1 x2 x3 x4 x5 x6 S
def f_X12_mayBy_50   (a0 : Int32) (x1 : Int32) (x2 : Int32) (x3 : Int32) (x4 : Int32) (x5 : Int32) (S : jS) : Option (Int32 × jS) :=
  if x5 = 0 then
    f_X12_mayBy_78   x1 x2 x3 x4 x5 a0 S
  else
    jcl (f_X12_isPrime x3 S) (fun v2 S1 =>
    if v2 = 0 then
      jcl (f_X12_isPrime x4 S1) (fun v4 S3 =>
      if v4 = 0 then
        f_X12_mayBy_79   1 x1 x2 x3 x4 x5 a0 S3
      else
        f_X12_mayBy_78   x1 x2 x3 x4 x5 a0 S3)
    else
      f_X12_mayBy_78   x1 x2 x3 x4 x5 a0 S1)
def f_X12_mayBy_49   (x1 : Int32) (x2 : Int32) (x3 : Int32) (x4 : Int32) (x5 : Int32) (S : jS) : Option (Int32 × jS) :=
  f_X12_mayBy_50   0 x1 x2 x3 x4 x5 S
def f_X12_mayBy_29   (a0 : Int32) (x1 : Int32) (x2 : Int32) (x3 : Int32) (x4 : Int32) (S : jS) : Option (Int32 × jS) :=
  if a0 = 0 then
    f_X12_mayBy_49   x1 x2 x3 x4 a0 S
  else
    jrm (x3 - x4) 2 (fun v1 =>
    if v1 = 0 then
      f_X12_mayBy_50   1 x1 x2 x3 x4 a0 S
    else
      f_X12_mayBy_49   x1 x2 x3 x4 a0 S)
def f_X12_mayBy_24   (x1 : Int32) (x2 : Int32) (x3 : Int32) (x4 : Int32) (S : jS) : Option (Int32 × jS) :=
  f_X12_mayBy_29   1 x1 x2 x3 x4 S
def f_X12_mayBy_28   (x1 : Int32) (x2 : Int32) (x3 : Int32) (x4 : Int32) (S : jS) : Option (Int32 × jS) :=
  f_X12_mayBy_29   0 x1 x2 x3 x4 S
def f_X12_mayBy_e   (x1 : Int32) (x2 : Int32) (x3 : Int32) (x4 : Int32) (S : jS) : Option (Int32 × jS) :=
  if x3 = x4 then
    f_X12_mayBy_24   x1 x2 x3 x4 S
  else
    jcl (f_X12_divides x3 x4 S) (fun v2 S1 =>
    if v2 = 0 then
      jcl (f_X12_divides x4 x3 S1) (fun v4 S3 =>
      if v4 = 0 then
        f_X12_mayBy_24   x1 x2 x3 x4 S3
      else
        f_X12_mayBy_28   x1 x2 x3 x4 S3)
    else
      f_X12_mayBy_28   x1 x2 x3 x4 S1)
def f_X12_mayBy (x1 : Int32) (x2 : Int32) (x3 : Int32) (x4 : Int32) (S : jS) : Option (Int32 × jS) := f_X12_mayBy_e x1 x2 x3 x4 S
def f_X12_mayNow_e   (x1 : Int32) (x2 : Int32) (S : jS) : Option (Int32 × jS) :=
  jld S 42 8 149 (fun v1 =>
  jld S 42 9 149 (fun v2 =>
  jcl (f_X12_mayBy v1 v2 x1 x2 S) (fun v4 S3 =>
  jzr v4 S3)))
def f_X12_mayNow (x1 : Int32) (x2 : Int32) (S : jS) : Option (Int32 × jS) := f_X12_mayNow_e x1 x2 S
def f_X12_isQuarrel_34   (a0 : Int32) (S : jS) : Option (Int32 × jS) :=
  jzr a0 S
def f_X12_isQuarrel_33    (S : jS) : Option (Int32 × jS) :=
  f_X12_isQuarrel_34   0 S
def f_X12_isQuarrel_e   (x1 : Int32) (S : jS) : Option (Int32 × jS) :=
  jcl (f_X12_isPair x1 S) (fun v2 S1 =>
  if v2 = 0 then
    f_X12_isQuarrel_33    S1
  else
    jld S1 47 x1 8 (fun v3 =>
    jld S1 47 (x1 + 1) 8 (fun v4 =>
    jcl (f_X12_mayNow v3 v4 S1) (fun v6 S5 =>
    if v6 = 0 then
      f_X12_isQuarrel_34   1 S5
    else
      f_X12_isQuarrel_33    S5))))
def f_X12_isQuarrel (x1 : Int32) (S : jS) : Option (Int32 × jS) := f_X12_isQuarrel_e x1 S
def f_X12_quarrelsIn_23   (a0 : Int32) (S : jS) : Option (Int32 × jS) :=
  jzr a0 S
def f_X12_quarrelsIn_18    (S : jS) : Option (Int32 × jS) :=
  f_X12_quarrelsIn_23   1 S
def f_X12_quarrelsIn_e   (x1 : Int32) (S : jS) : Option (Int32 × jS) :=
  jcl (f_X12_isQuarrel x1 S) (fun v2 S1 =>
  if v2 = 0 then
    jcl (f_X12_isQuarrel (x1 - 1) S1) (fun v4 S3 =>
    if v4 = 0 then
      f_X12_quarrelsIn_23   0 S3
    else
      f_X12_quarrelsIn_18    S3)
  else
    f_X12_quarrelsIn_18    S1)
def f_X12_quarrelsIn (x1 : Int32) (S : jS) : Option (Int32 × jS) := f_X12_quarrelsIn_e x1 S
def f_X12_of_19    (S : jS) : Option (Int32 × jS) :=
  jcl (f_X12_bad (-2) S) (fun v2 S1 =>
  some (v2, S1))
def f_X12_of_96   (a0 : Int32) (S : jS) : Option (Int32 × jS) :=
  some (a0, S)
def f_X12_of_109   (a0 : Int32) (S : jS) : Option (Int32 × jS) :=
  some (a0, S)
def f_X12_of_123   (a0 : Int32) (S : jS) : Option (Int32 × jS) :=
  some (a0, S)
def f_X12_of_e   (x1 : Int32) (x2 : Int32) (S : jS) : Option (Int32 × jS) :=
  jcl (f_X12_isHouse x1 S) (fun v2 S1 =>
  if v2 = 0 then
    f_X12_of_19    S1
  else
    jcl (f_X12_in x2.toInt64 0 4 S1) (fun v4 S3 =>
    if v4 = 0 then
      f_X12_of_19    S3
    else
      jcv (f_X12_layHand  S3) (fun S5 =>
      jld S5 47 x1 8 (fun v6 =>
      if v6 = 0 then
        some (0, S5)
      else
        if x2 = 1 then
          jld S5 46 v6 301 (fun v7 =>
          some (v7, S5))
        else
        if x2 = 2 then
          jcl (f_X12_isPrime v6 S5) (fun v9 S8 =>
          if v9 = 0 then
            f_X12_of_96   0 S8
          else
            f_X12_of_96   1 S8)
        else
        if x2 = 3 then
          jcl (f_X12_isSquare v6 S5) (fun v11 S10 =>
          if v11 = 0 then
            f_X12_of_109   0 S10
          else
            f_X12_of_109   1 S10)
        else
        if x2 = 4 then
          jcl (f_X12_quarrelsIn x1 S5) (fun v13 S12 =>
          if v13 = 0 then
            f_X12_of_123   0 S12
          else
            f_X12_of_123   1 S12)
        else
          some (v6, S5)))))
def f_X12_of (x1 : Int32) (x2 : Int32) (S : jS) : Option (Int32 × jS) := f_X12_of_e x1 x2 S
def f_X3_addParts_43  (g : Int32 → Int32 → Int32 → jS → Option (Int32 × jS)) (k49 : Int32 → jS → Option (Int32 × jS)) (x0 : Int32) (x1 : Int32) (x2 : Int32) (S : jS) : Option (Int32 × jS) :=
  g x0 x1 (x2 + 1) S
def f_X3_addParts_41  (g : Int32 → Int32 → Int32 → jS → Option (Int32 × jS)) (k49 : Int32 → jS → Option (Int32 × jS)) (a0 : Int32) (a1 : Int32) (x0 : Int32) (x2 : Int32) (S : jS) : Option (Int32 × jS) :=
  f_X3_addParts_43  g k49 x0 (a1 + a0) x2 S
def f_X3_addParts_4  (g : Int32 → Int32 → Int32 → jS → Option (Int32 × jS)) (k49 : Int32 → jS → Option (Int32 × jS)) (x0 : Int32) (x1 : Int32) (x2 : Int32) (S : jS) : Option (Int32 × jS) :=
  if 9999 < x2 then
    k49 x1 S
  else
    if x0 < (x2 * x2) then
      k49 x1 S
    else
      jrm x0 x2 (fun v1 =>
      if v1 = 0 then
        jdv x0 x2 (fun v2 =>
        if v2 = x2 then
          f_X3_addParts_41  g k49 x2 x1 x0 x2 S
        else
          f_X3_addParts_41  g k49 (x2 + v2) x1 x0 x2 S)
      else
        f_X3_addParts_43  g k49 x0 x1 x2 S)
def lp_X3_addParts_4  (k49 : Int32 → jS → Option (Int32 × jS)) (x0 : Int32) (x1 : Int32) (x2 : Int32) (S : jS) : Option (Int32 × jS) := jloop (α := Int32 × Int32 × Int32 × jS) (fun g q => f_X3_addParts_4  (fun x0 x1 x2 S => g (x0, x1, x2, S)) k49 q.1 q.2.1 q.2.2.1 q.2.2.2) jN (x0, x1, x2, S)
def f_X3_addParts_49   (x1 : Int32) (S : jS) : Option (Int32 × jS) :=
  some (x1, S)
def f_X3_addParts_e   (x0 : Int32) (S : jS) : Option (Int32 × jS) :=
  lp_X3_addParts_4  (f_X3_addParts_49) x0 1 2 S
def f_X3_addParts (x0 : Int32) (S : jS) : Option (Int32 × jS) := f_X3_addParts_e x0 S
def f_X3_partsOf_27   (a0 : Int32) (S : jS) : Option (Int32 × jS) :=
  some (a0, S)
def f_X3_partsOf_e   (x1 : Int32) (S : jS) : Option (Int32 × jS) :=
  if x1 < 1 then
    some (0, S)
  else
    if 300 < x1 then
      jcl (f_X3_addParts x1 S) (fun v2 S1 =>
      f_X3_partsOf_27   v2 S1)
    else
      jld S 2 x1 301 (fun v3 =>
      f_X3_partsOf_27   v3 S)
def f_X3_partsOf (x1 : Int32) (S : jS) : Option (Int32 × jS) := f_X3_partsOf_e x1 S
def f_X3_isPrime_28   (a0 : Int32) (S : jS) : Option (Int32 × jS) :=
  jzr a0 S
def f_X3_isPrime_27    (S : jS) : Option (Int32 × jS) :=
  f_X3_isPrime_28   0 S
def f_X3_isPrime_e   (x1 : Int32) (S : jS) : Option (Int32 × jS) :=
  if 0 < x1 then
    if x1 < 301 then
      jld S 2 x1 301 (fun v1 =>
      if v1 = 1 then
        f_X3_isPrime_28   1 S
      else
        f_X3_isPrime_27    S)
    else
      f_X3_isPrime_27    S
  else
    f_X3_isPrime_27    S
def f_X3_isPrime (x1 : Int32) (S : jS) : Option (Int32 × jS) := f_X3_isPrime_e x1 S
def f_X11_bit_9   (a0 : Int32) (S : jS) : Option (Int32 × jS) :=
  some (a0, S)
def f_X11_bit_e   (x0 : Int32) (S : jS) : Option (Int32 × jS) :=
  if x0 = 0 then
    f_X11_bit_9   0 S
  else
    f_X11_bit_9   1 S
def f_X11_bit (x0 : Int32) (S : jS) : Option (Int32 × jS) := f_X11_bit_e x0 S
def f_X3_isSquare_27   (a0 : Int32) (S : jS) : Option (Int32 × jS) :=
  jzr a0 S
def f_X3_isSquare_26    (S : jS) : Option (Int32 × jS) :=
  f_X3_isSquare_27   0 S
def f_X3_isSquare_e   (x1 : Int32) (S : jS) : Option (Int32 × jS) :=
  if 0 < x1 then
    if x1 < 301 then
      jld S 3 x1 301 (fun v1 =>
      if v1 = 0 then
        f_X3_isSquare_26    S
      else
        f_X3_isSquare_27   1 S)
    else
      f_X3_isSquare_26    S
  else
    f_X3_isSquare_26    S
def f_X3_isSquare (x1 : Int32) (S : jS) : Option (Int32 × jS) := f_X3_isSquare_e x1 S
def f_X5_lets_50   (a0 : Int32) (S : jS) : Option (Int32 × jS) :=
  jzr a0 S
def f_X5_lets_45    (S : jS) : Option (Int32 × jS) :=
  f_X5_lets_50   1 S
def f_X5_lets_22   (a0 : Int32) (x4 : Int32) (S : jS) : Option (Int32 × jS) :=
  if x4 = a0 then
    f_X5_lets_45    S
  else
    if x4 < 1 then
      f_X5_lets_45    S
    else
      jrm a0 x4 (fun v1 =>
      if v1 = 0 then
        f_X5_lets_50   0 S
      else
        f_X5_lets_45    S)
def f_X5_lets_10   (a0 : Int32) (x1 : Int32) (x2 : Int32) (S : jS) : Option (Int32 × jS) :=
  if x1 < x2 then
    f_X5_lets_22   x2 a0 S
  else
    f_X5_lets_22   x1 a0 S
def f_X5_lets_e   (x1 : Int32) (x2 : Int32) (x3 : Int32) (S : jS) : Option (Int32 × jS) :=
  if x1 < x2 then
    f_X5_lets_10   x1 x1 x2 S
  else
    f_X5_lets_10   x2 x1 x2 S
def f_X5_lets (x1 : Int32) (x2 : Int32) (x3 : Int32) (S : jS) : Option (Int32 × jS) := f_X5_lets_e x1 x2 x3 S
def f_X5_lets_r7_50   (a0 : Int32) (S : jS) : Option (Int32 × jS) :=
  jzr a0 S
def f_X5_lets_r7_45    (S : jS) : Option (Int32 × jS) :=
  f_X5_lets_r7_50   1 S
def f_X5_lets_r7_22   (a0 : Int32) (x4 : Int32) (S : jS) : Option (Int32 × jS) :=
  if x4 = a0 then
    f_X5_lets_r7_45    S
  else
    if x4 < 1 then
      f_X5_lets_r7_45    S
    else
      jrm a0 x4 (fun v1 =>
      if v1 = 0 then
        f_X5_lets_r7_50   0 S
      else
        f_X5_lets_r7_45    S)
def f_X5_lets_r7_10   (a0 : Int32) (x1 : Int32) (x2 : Int32) (S : jS) : Option (Int32 × jS) :=
  if x1 < x2 then
    f_X5_lets_r7_22   x2 a0 S
  else
    f_X5_lets_r7_22   x1 a0 S
def f_X5_lets_r7_e   (x1 : Int32) (x2 : Int32) (x3 : Int32) (S : jS) : Option (Int32 × jS) :=
  if x1 < x2 then
    f_X5_lets_r7_10   x1 x1 x2 S
  else
    f_X5_lets_r7_10   x2 x1 x2 S
def f_X5_lets_r7 (x1 : Int32) (x2 : Int32) (x3 : Int32) (S : jS) : Option (Int32 × jS) := f_X5_lets_r7_e x1 x2 x3 S
def f_X0_lets_23   (a0 : Int32) (S : jS) : Option (Int32 × jS) :=
  jzr a0 S
def f_X0_lets_22    (S : jS) : Option (Int32 × jS) :=
  f_X0_lets_23   0 S
def f_X0_lets_e   (x1 : Int32) (x2 : Int32) (x3 : Int32) (S : jS) : Option (Int32 × jS) :=
  jrm (x1 + x2) 2 (fun v1 =>
  if v1 = 0 then
    jcl (f_X5_lets_r7 x1 x2 x3 S) (fun v3 S2 =>
    if v3 = 0 then
      f_X0_lets_22    S2
    else
      f_X0_lets_23   1 S2)
  else
    f_X0_lets_22    S)
def f_X0_lets (x1 : Int32) (x2 : Int32) (x3 : Int32) (S : jS) : Option (Int32 × jS) := f_X0_lets_e x1 x2 x3 S
def f_X5_lets_r8_50   (a0 : Int32) (S : jS) : Option (Int32 × jS) :=
  jzr a0 S
def f_X5_lets_r8_45    (S : jS) : Option (Int32 × jS) :=
  f_X5_lets_r8_50   1 S
def f_X5_lets_r8_22   (a0 : Int32) (x4 : Int32) (S : jS) : Option (Int32 × jS) :=
  if x4 = a0 then
    f_X5_lets_r8_45    S
  else
    if x4 < 1 then
      f_X5_lets_r8_45    S
    else
      jrm a0 x4 (fun v1 =>
      if v1 = 0 then
        f_X5_lets_r8_50   0 S
      else
        f_X5_lets_r8_45    S)
def f_X5_lets_r8_10   (a0 : Int32) (x1 : Int32) (x2 : Int32) (S : jS) : Option (Int32 × jS) :=
  if x1 < x2 then
    f_X5_lets_r8_22   x2 a0 S
  else
    f_X5_lets_r8_22   x1 a0 S
def f_X5_lets_r8_e   (x1 : Int32) (x2 : Int32) (x3 : Int32) (S : jS) : Option (Int32 × jS) :=
  if x1 < x2 then
    f_X5_lets_r8_10   x1 x1 x2 S
  else
    f_X5_lets_r8_10   x2 x1 x2 S
def f_X5_lets_r8 (x1 : Int32) (x2 : Int32) (x3 : Int32) (S : jS) : Option (Int32 × jS) := f_X5_lets_r8_e x1 x2 x3 S
def f_X6_lets_37   (a0 : Int32) (S : jS) : Option (Int32 × jS) :=
  jzr a0 S
def f_X6_lets_36    (S : jS) : Option (Int32 × jS) :=
  f_X6_lets_37   0 S
def f_X6_lets_e   (x1 : Int32) (x2 : Int32) (x3 : Int32) (S : jS) : Option (Int32 × jS) :=
  jcl (f_X3_isPrime x1 S) (fun v2 S1 =>
  if v2 = 0 then
    jcl (f_X3_isPrime x2 S1) (fun v4 S3 =>
    if v4 = 0 then
      jcl (f_X5_lets_r8 x1 x2 x3 S3) (fun v6 S5 =>
      if v6 = 0 then
        f_X6_lets_36    S5
      else
        f_X6_lets_37   1 S5)
    else
      f_X6_lets_36    S3)
  else
    f_X6_lets_36    S1)
def f_X6_lets (x1 : Int32) (x2 : Int32) (x3 : Int32) (S : jS) : Option (Int32 × jS) := f_X6_lets_e x1 x2 x3 S
def f_X5_lets_r9_50   (a0 : Int32) (S : jS) : Option (Int32 × jS) :=
  jzr a0 S
def f_X5_lets_r9_45    (S : jS) : Option (Int32 × jS) :=
  f_X5_lets_r9_50   1 S
def f_X5_lets_r9_22   (a0 : Int32) (x4 : Int32) (S : jS) : Option (Int32 × jS) :=
  if x4 = a0 then
    f_X5_lets_r9_45    S
  else
    if x4 < 1 then
      f_X5_lets_r9_45    S
    else
      jrm a0 x4 (fun v1 =>
      if v1 = 0 then
        f_X5_lets_r9_50   0 S
      else
        f_X5_lets_r9_45    S)
def f_X5_lets_r9_10   (a0 : Int32) (x1 : Int32) (x2 : Int32) (S : jS) : Option (Int32 × jS) :=
  if x1 < x2 then
    f_X5_lets_r9_22   x2 a0 S
  else
    f_X5_lets_r9_22   x1 a0 S
def f_X5_lets_r9_e   (x1 : Int32) (x2 : Int32) (x3 : Int32) (S : jS) : Option (Int32 × jS) :=
  if x1 < x2 then
    f_X5_lets_r9_10   x1 x1 x2 S
  else
    f_X5_lets_r9_10   x2 x1 x2 S
def f_X5_lets_r9 (x1 : Int32) (x2 : Int32) (x3 : Int32) (S : jS) : Option (Int32 × jS) := f_X5_lets_r9_e x1 x2 x3 S
def f_X0_lets_r9_23   (a0 : Int32) (S : jS) : Option (Int32 × jS) :=
  jzr a0 S
def f_X0_lets_r9_22    (S : jS) : Option (Int32 × jS) :=
  f_X0_lets_r9_23   0 S
def f_X0_lets_r9_e   (x1 : Int32) (x2 : Int32) (x3 : Int32) (S : jS) : Option (Int32 × jS) :=
  jrm (x1 + x2) 2 (fun v1 =>
  if v1 = 0 then
    jcl (f_X5_lets_r9 x1 x2 x3 S) (fun v3 S2 =>
    if v3 = 0 then
      f_X0_lets_r9_22    S2
    else
      f_X0_lets_r9_23   1 S2)
  else
    f_X0_lets_r9_22    S)
def f_X0_lets_r9 (x1 : Int32) (x2 : Int32) (x3 : Int32) (S : jS) : Option (Int32 × jS) := f_X0_lets_r9_e x1 x2 x3 S
def f_X9_lets_37   (a0 : Int32) (S : jS) : Option (Int32 × jS) :=
  jzr a0 S
def f_X9_lets_32    (S : jS) : Option (Int32 × jS) :=
  f_X9_lets_37   1 S
def f_X9_lets_36    (S : jS) : Option (Int32 × jS) :=
  f_X9_lets_37   0 S
def f_X9_lets_e   (x1 : Int32) (x2 : Int32) (x3 : Int32) (S : jS) : Option (Int32 × jS) :=
  jcl (f_X0_lets_r9 x1 x2 x3 S) (fun v2 S1 =>
  if v2 = 0 then
    jcl (f_X3_isSquare x1 S1) (fun v4 S3 =>
    if v4 = 0 then
      f_X9_lets_36    S3
    else
      jcl (f_X3_isSquare x2 S3) (fun v6 S5 =>
      if v6 = 0 then
        f_X9_lets_36    S5
      else
        f_X9_lets_32    S5))
  else
    f_X9_lets_32    S1)
def f_X9_lets (x1 : Int32) (x2 : Int32) (x3 : Int32) (S : jS) : Option (Int32 × jS) := f_X9_lets_e x1 x2 x3 S
def f_X5_lets_r10_50   (a0 : Int32) (S : jS) : Option (Int32 × jS) :=
  jzr a0 S
def f_X5_lets_r10_45    (S : jS) : Option (Int32 × jS) :=
  f_X5_lets_r10_50   1 S
def f_X5_lets_r10_22   (a0 : Int32) (x4 : Int32) (S : jS) : Option (Int32 × jS) :=
  if x4 = a0 then
    f_X5_lets_r10_45    S
  else
    if x4 < 1 then
      f_X5_lets_r10_45    S
    else
      jrm a0 x4 (fun v1 =>
      if v1 = 0 then
        f_X5_lets_r10_50   0 S
      else
        f_X5_lets_r10_45    S)
def f_X5_lets_r10_10   (a0 : Int32) (x1 : Int32) (x2 : Int32) (S : jS) : Option (Int32 × jS) :=
  if x1 < x2 then
    f_X5_lets_r10_22   x2 a0 S
  else
    f_X5_lets_r10_22   x1 a0 S
def f_X5_lets_r10_e   (x1 : Int32) (x2 : Int32) (x3 : Int32) (S : jS) : Option (Int32 × jS) :=
  if x1 < x2 then
    f_X5_lets_r10_10   x1 x1 x2 S
  else
    f_X5_lets_r10_10   x2 x1 x2 S
def f_X5_lets_r10 (x1 : Int32) (x2 : Int32) (x3 : Int32) (S : jS) : Option (Int32 × jS) := f_X5_lets_r10_e x1 x2 x3 S
def f_X8_lets_25   (a0 : Int32) (S : jS) : Option (Int32 × jS) :=
  jzr a0 S
def f_X8_lets_24    (S : jS) : Option (Int32 × jS) :=
  f_X8_lets_25   0 S
def f_X8_lets_e   (x1 : Int32) (x2 : Int32) (x3 : Int32) (S : jS) : Option (Int32 × jS) :=
  if (if 0 ≤ (x1 - x2) then (x1 - x2) else 0 - (x1 - x2)) < x3 then
    f_X8_lets_24    S
  else
    jcl (f_X5_lets_r10 x1 x2 x3 S) (fun v2 S1 =>
    if v2 = 0 then
      f_X8_lets_24    S1
    else
      f_X8_lets_25   1 S1)
def f_X8_lets (x1 : Int32) (x2 : Int32) (x3 : Int32) (S : jS) : Option (Int32 × jS) := f_X8_lets_e x1 x2 x3 S
def f_X5_lets_r11_50   (a0 : Int32) (S : jS) : Option (Int32 × jS) :=
  jzr a0 S
def f_X5_lets_r11_45    (S : jS) : Option (Int32 × jS) :=
  f_X5_lets_r11_50   1 S
def f_X5_lets_r11_22   (a0 : Int32) (x4 : Int32) (S : jS) : Option (Int32 × jS) :=
  if x4 = a0 then
    f_X5_lets_r11_45    S
  else
    if x4 < 1 then
      f_X5_lets_r11_45    S
    else
      jrm a0 x4 (fun v1 =>
      if v1 = 0 then
        f_X5_lets_r11_50   0 S
      else
        f_X5_lets_r11_45    S)
def f_X5_lets_r11_10   (a0 : Int32) (x1 : Int32) (x2 : Int32) (S : jS) : Option (Int32 × jS) :=
  if x1 < x2 then
    f_X5_lets_r11_22   x2 a0 S
  else
    f_X5_lets_r11_22   x1 a0 S
def f_X5_lets_r11_e   (x1 : Int32) (x2 : Int32) (x3 : Int32) (S : jS) : Option (Int32 × jS) :=
  if x1 < x2 then
    f_X5_lets_r11_10   x1 x1 x2 S
  else
    f_X5_lets_r11_10   x2 x1 x2 S
def f_X5_lets_r11 (x1 : Int32) (x2 : Int32) (x3 : Int32) (S : jS) : Option (Int32 × jS) := f_X5_lets_r11_e x1 x2 x3 S
def f_X6_lets_r11_37   (a0 : Int32) (S : jS) : Option (Int32 × jS) :=
  jzr a0 S
def f_X6_lets_r11_36    (S : jS) : Option (Int32 × jS) :=
  f_X6_lets_r11_37   0 S
def f_X6_lets_r11_e   (x1 : Int32) (x2 : Int32) (x3 : Int32) (S : jS) : Option (Int32 × jS) :=
  jcl (f_X3_isPrime x1 S) (fun v2 S1 =>
  if v2 = 0 then
    jcl (f_X3_isPrime x2 S1) (fun v4 S3 =>
    if v4 = 0 then
      jcl (f_X5_lets_r11 x1 x2 x3 S3) (fun v6 S5 =>
      if v6 = 0 then
        f_X6_lets_r11_36    S5
      else
        f_X6_lets_r11_37   1 S5)
    else
      f_X6_lets_r11_36    S3)
  else
    f_X6_lets_r11_36    S1)
def f_X6_lets_r11 (x1 : Int32) (x2 : Int32) (x3 : Int32) (S : jS) : Option (Int32 × jS) := f_X6_lets_r11_e x1 x2 x3 S
def f_X11_isNumber_17   (a0 : Int32) (S : jS) : Option (Int32 × jS) :=
  jzr a0 S
def f_X11_isNumber_16    (S : jS) : Option (Int32 × jS) :=
  f_X11_isNumber_17   0 S
def f_X11_isNumber_e   (x0 : Int32) (S : jS) : Option (Int32 × jS) :=
  if x0 < 1 then
    f_X11_isNumber_16    S
  else
    if 300 < x0 then
      f_X11_isNumber_16    S
    else
      f_X11_isNumber_17   1 S
def f_X11_isNumber (x0 : Int32) (S : jS) : Option (Int32 × jS) := f_X11_isNumber_e x0 S
def f_X3_areFriends_39   (a0 : Int32) (S : jS) : Option (Int32 × jS) :=
  jzr a0 S
def f_X3_areFriends_38    (S : jS) : Option (Int32 × jS) :=
  f_X3_areFriends_39   0 S
def f_X3_areFriends_e   (x1 : Int32) (x2 : Int32) (S : jS) : Option (Int32 × jS) :=
  jcl (f_X11_isNumber x1 S) (fun v2 S1 =>
  if v2 = 0 then
    f_X3_areFriends_38    S1
  else
    jcl (f_X11_isNumber x2 S1) (fun v4 S3 =>
    if v4 = 0 then
      f_X3_areFriends_38    S3
    else
      jld S3 2 x1 301 (fun v5 =>
      if v5 = x2 then
        jld S3 2 x2 301 (fun v6 =>
        if v6 = x1 then
          f_X3_areFriends_39   1 S3
        else
          f_X3_areFriends_38    S3)
      else
        f_X3_areFriends_38    S3)))
def f_X3_areFriends (x1 : Int32) (x2 : Int32) (S : jS) : Option (Int32 × jS) := f_X3_areFriends_e x1 x2 S
def f_X1_lets_27   (a0 : Int32) (S : jS) : Option (Int32 × jS) :=
  jzr a0 S
def f_X1_lets_22    (S : jS) : Option (Int32 × jS) :=
  f_X1_lets_27   1 S
def f_X1_lets_e   (x1 : Int32) (x2 : Int32) (x3 : Int32) (S : jS) : Option (Int32 × jS) :=
  jcl (f_X6_lets_r11 x1 x2 x3 S) (fun v2 S1 =>
  if v2 = 0 then
    jcl (f_X3_areFriends x1 x2 S1) (fun v4 S3 =>
    if v4 = 0 then
      f_X1_lets_27   0 S3
    else
      f_X1_lets_22    S3)
  else
    f_X1_lets_22    S1)
def f_X1_lets (x1 : Int32) (x2 : Int32) (x3 : Int32) (S : jS) : Option (Int32 × jS) := f_X1_lets_e x1 x2 x3 S
def f_X2_allows_18    (S : jS) : Option (Int32 × jS) :=
  jzr 1 S
def f_X2_allows_55   (a0 : Int32) (S : jS) : Option (Int32 × jS) :=
  jzr a0 S
def f_X2_allows_50    (S : jS) : Option (Int32 × jS) :=
  f_X2_allows_55   1 S
def f_X2_allows_e   (x1 : Int32) (x2 : Int32) (x3 : Int32) (S : jS) : Option (Int32 × jS) :=
  if x2 = 0 then
    f_X2_allows_18    S
  else
    if x3 = 0 then
      f_X2_allows_18    S
    else
      if x1 < 0 then
        f_X2_allows_18    S
      else
        if x1 < 60 then
          jdv x1 10 (fun v1 =>
          if v1 = 0 then
            jrm x1 10 (fun v2 =>
            jcl (f_X5_lets x2 x3 v2 S) (fun v4 S3 =>
            if v4 = 0 then
              f_X2_allows_55   0 S3
            else
              f_X2_allows_50    S3))
          else
          if v1 = 1 then
            jrm x1 10 (fun v5 =>
            jcl (f_X0_lets x2 x3 v5 S) (fun v7 S6 =>
            if v7 = 0 then
              f_X2_allows_55   0 S6
            else
              f_X2_allows_50    S6))
          else
          if v1 = 2 then
            jrm x1 10 (fun v8 =>
            jcl (f_X6_lets x2 x3 v8 S) (fun v10 S9 =>
            if v10 = 0 then
              f_X2_allows_55   0 S9
            else
              f_X2_allows_50    S9))
          else
          if v1 = 3 then
            jrm x1 10 (fun v11 =>
            jcl (f_X9_lets x2 x3 v11 S) (fun v13 S12 =>
            if v13 = 0 then
              f_X2_allows_55   0 S12
            else
              f_X2_allows_50    S12))
          else
          if v1 = 4 then
            jrm x1 10 (fun v14 =>
            jcl (f_X8_lets x2 x3 v14 S) (fun v16 S15 =>
            if v16 = 0 then
              f_X2_allows_55   0 S15
            else
              f_X2_allows_50    S15))
          else
          if v1 = 5 then
            jrm x1 10 (fun v17 =>
            jcl (f_X1_lets x2 x3 v17 S) (fun v19 S18 =>
            if v19 = 0 then
              f_X2_allows_55   0 S18
            else
              f_X2_allows_50    S18))
          else
          none)
        else
          f_X2_allows_18    S
def f_X2_allows (x1 : Int32) (x2 : Int32) (x3 : Int32) (S : jS) : Option (Int32 × jS) := f_X2_allows_e x1 x2 x3 S
def f_X2_quarrelling_r22_39  (g : Int32 → Int32 → Int32 → jS → Option (Int32 × jS)) (k45 : Int32 → jS → Option (Int32 × jS)) (x1 : Int32) (x3 : Int32) (x4 : Int32) (S : jS) : Option (Int32 × jS) :=
  g x1 x3 (x4 + 1) S
def f_X2_quarrelling_r22_5  (g : Int32 → Int32 → Int32 → jS → Option (Int32 × jS)) (k45 : Int32 → jS → Option (Int32 × jS)) (x1 : Int32) (x3 : Int32) (x4 : Int32) (S : jS) : Option (Int32 × jS) :=
  if (x4 + 1) < 8 then
    jld S 22 x4 8 (fun v1 =>
    jld S 22 (x4 + 1) 8 (fun v2 =>
    jcl (f_X2_allows x1 v1 v2 S) (fun v4 S3 =>
    if v4 = 0 then
      f_X2_quarrelling_r22_39  g k45 x1 (x3 ||| (1 <<< (x4 &&& 31))) x4 S3
    else
      f_X2_quarrelling_r22_39  g k45 x1 x3 x4 S3)))
  else
    k45 x3 S
def lp_X2_quarrelling_r22_5  (k45 : Int32 → jS → Option (Int32 × jS)) (x1 : Int32) (x3 : Int32) (x4 : Int32) (S : jS) : Option (Int32 × jS) := jloop (α := Int32 × Int32 × Int32 × jS) (fun g q => f_X2_quarrelling_r22_5  (fun x1 x3 x4 S => g (x1, x3, x4, S)) k45 q.1 q.2.1 q.2.2.1 q.2.2.2) jN (x1, x3, x4, S)
def f_X2_quarrelling_r22_45   (x3 : Int32) (S : jS) : Option (Int32 × jS) :=
  some (x3, S)
def f_X2_quarrelling_r22_e   (x1 : Int32) (S : jS) : Option (Int32 × jS) :=
  lp_X2_quarrelling_r22_5  (f_X2_quarrelling_r22_45) x1 0 0 S
def f_X2_quarrelling_r22 (x1 : Int32) (S : jS) : Option (Int32 × jS) := f_X2_quarrelling_r22_e x1 S
def f_X4_bothOf_e   (x0 : Int32) (S : jS) : Option (Int32 × jS) :=
  some ((x0 ||| (x0 <<< (1 &&& 31))), S)
def f_X4_bothOf (x0 : Int32) (S : jS) : Option (Int32 × jS) := f_X4_bothOf_e x0 S
def f_X11_of_16    (S : jS) : Option (Int32 × jS) :=
  jcl (f_X11_refuseBad  S) (fun v2 S1 =>
  some (v2, S1))
def f_X11_of_e   (x1 : Int32) (x2 : Int32) (S : jS) : Option (Int32 × jS) :=
  jcl (f_X11_isHouse x1 S) (fun v2 S1 =>
  if v2 = 0 then
    f_X11_of_16    S1
  else
    if x2 < 0 then
      f_X11_of_16    S1
    else
      if 4 < x2 then
        f_X11_of_16    S1
      else
        jld S1 22 x1 8 (fun v3 =>
        if v3 = 0 then
          some (0, S1)
        else
          if x2 = 0 then
            some (v3, S1)
          else
          if x2 = 1 then
            jcl (f_X3_partsOf v3 S1) (fun v5 S4 =>
            some (v5, S4))
          else
          if x2 = 2 then
            jcl (f_X3_isPrime v3 S1) (fun v7 S6 =>
            jcl (f_X11_bit v7 S6) (fun v9 S8 =>
            some (v9, S8)))
          else
          if x2 = 3 then
            jcl (f_X3_isSquare v3 S1) (fun v11 S10 =>
            jcl (f_X11_bit v11 S10) (fun v13 S12 =>
            some (v13, S12)))
          else
            jcl (f_X2_quarrelling_r22 (S1.1 21 1) S1) (fun v15 S14 =>
            jcl (f_X4_bothOf v15 S14) (fun v17 S16 =>
            some (((v17 >>> (x1 &&& 31)) &&& 1), S16)))))
def f_X11_of (x1 : Int32) (x2 : Int32) (S : jS) : Option (Int32 × jS) := f_X11_of_e x1 x2 S
def f_X12_isNumber_e   (x0 : Int32) (S : jS) : Option (Int32 × jS) :=
  jcl (f_X12_in x0.toInt64 1 300 S) (fun v2 S1 =>
  jzr v2 S1)
def f_X12_isNumber (x0 : Int32) (S : jS) : Option (Int32 × jS) := f_X12_isNumber_e x0 S
def f_X12_may_37   (a0 : Int32) (S : jS) : Option (Int32 × jS) :=
  some (a0, S)
def f_X12_may_31    (S : jS) : Option (Int32 × jS) :=
  jcl (f_X12_bad (-2) S) (fun v2 S1 =>
  f_X12_may_37   v2 S1)
def f_X12_may_e   (x1 : Int32) (x2 : Int32) (S : jS) : Option (Int32 × jS) :=
  jcl (f_X12_isNumber x1 S) (fun v2 S1 =>
  if v2 = 0 then
    f_X12_may_31    S1
  else
    jcl (f_X12_isNumber x2 S1) (fun v4 S3 =>
    if v4 = 0 then
      f_X12_may_31    S3
    else
      jcl (f_X12_mayNow x1 x2 S3) (fun v6 S5 =>
      if v6 = 0 then
        f_X12_may_37   0 S5
      else
        f_X12_may_37   1 S5)))
def f_X12_may (x1 : Int32) (x2 : Int32) (S : jS) : Option (Int32 × jS) := f_X12_may_e x1 x2 S
def f_X11_may_14    (S : jS) : Option (Int32 × jS) :=
  jcl (f_X11_refuseBad  S) (fun v2 S1 =>
  some (v2, S1))
def f_X11_may_e   (x1 : Int32) (x2 : Int32) (S : jS) : Option (Int32 × jS) :=
  jcl (f_X11_isNumber x1 S) (fun v2 S1 =>
  if v2 = 0 then
    f_X11_may_14    S1
  else
    jcl (f_X11_isNumber x2 S1) (fun v4 S3 =>
    if v4 = 0 then
      f_X11_may_14    S3
    else
      jcl (f_X2_allows (S3.1 21 1) x1 x2 S3) (fun v6 S5 =>
      jcl (f_X11_bit v6 S5) (fun v8 S7 =>
      some (v8, S7)))))
def f_X11_may (x1 : Int32) (x2 : Int32) (S : jS) : Option (Int32 × jS) := f_X11_may_e x1 x2 S
def f_X12_manyQuarrels_24  (g : Int32 → Int32 → jS → Option (Int32 × jS)) (k32 : Int32 → jS → Option (Int32 × jS)) (a0 : Int32) (a1 : Int32) (x2 : Int32) (S : jS) : Option (Int32 × jS) :=
  g (a1 + a0) (x2 + 1) S
def f_X12_manyQuarrels_4  (g : Int32 → Int32 → jS → Option (Int32 × jS)) (k32 : Int32 → jS → Option (Int32 × jS)) (x1 : Int32) (x2 : Int32) (S : jS) : Option (Int32 × jS) :=
  if x2 < 7 then
    jcl (f_X12_isQuarrel x2 S) (fun v2 S1 =>
    if v2 = 0 then
      f_X12_manyQuarrels_24  g k32 0 x1 x2 S1
    else
      f_X12_manyQuarrels_24  g k32 1 x1 x2 S1)
  else
    k32 x1 S
def lp_X12_manyQuarrels_4  (k32 : Int32 → jS → Option (Int32 × jS)) (x1 : Int32) (x2 : Int32) (S : jS) : Option (Int32 × jS) := jloop (α := Int32 × Int32 × jS) (fun g q => f_X12_manyQuarrels_4  (fun x1 x2 S => g (x1, x2, S)) k32 q.1 q.2.1 q.2.2) jN (x1, x2, S)
def f_X12_manyQuarrels_32   (x1 : Int32) (S : jS) : Option (Int32 × jS) :=
  some (x1, S)
def f_X12_manyQuarrels_e    (S : jS) : Option (Int32 × jS) :=
  lp_X12_manyQuarrels_4  (f_X12_manyQuarrels_32) 0 0 S
def f_X12_manyQuarrels  (S : jS) : Option (Int32 × jS) := f_X12_manyQuarrels_e  S
def f_X12_quarrels_47  (g : Int32 → Int32 → Int32 → jS → Option (Int32 × jS)) (k55 : Int32 → Int32 → jS → Option (Int32 × jS)) (a0 : Int32) (a1 : Int32) (x1 : Int32) (x3 : Int32) (S : jS) : Option (Int32 × jS) :=
  g x1 (a1 ||| a0) (x3 + 1) S
def f_X12_quarrels_25  (g : Int32 → Int32 → Int32 → jS → Option (Int32 × jS)) (k55 : Int32 → Int32 → jS → Option (Int32 × jS)) (x1 : Int32) (x2 : Int32) (x3 : Int32) (S : jS) : Option (Int32 × jS) :=
  if x3 < 8 then
    jcl (f_X12_quarrelsIn x3 S) (fun v2 S1 =>
    if v2 = 0 then
      f_X12_quarrels_47  g k55 0 x2 x1 x3 S1
    else
      f_X12_quarrels_47  g k55 (1 <<< (x3 &&& 31)) x2 x1 x3 S1)
  else
    k55 x1 x2 S
def lp_X12_quarrels_25  (k55 : Int32 → Int32 → jS → Option (Int32 × jS)) (x1 : Int32) (x2 : Int32) (x3 : Int32) (S : jS) : Option (Int32 × jS) := jloop (α := Int32 × Int32 × Int32 × jS) (fun g q => f_X12_quarrels_25  (fun x1 x2 x3 S => g (x1, x2, x3, S)) k55 q.1 q.2.1 q.2.2.1 q.2.2.2) jN (x1, x2, x3, S)
def f_X12_quarrels_67   (a0 : Int32) (S : jS) : Option (Int32 × jS) :=
  some (a0, S)
def f_X12_quarrels_55   (x1 : Int32) (x2 : Int32) (S : jS) : Option (Int32 × jS) :=
  if x1 = 0 then
    f_X12_quarrels_67   x2 S
  else
    jcl (f_X12_manyQuarrels  S) (fun v2 S1 =>
    f_X12_quarrels_67   v2 S1)
def f_X12_quarrels_e   (x1 : Int32) (S : jS) : Option (Int32 × jS) :=
  jcl (f_X12_in x1.toInt64 0 1 S) (fun v2 S1 =>
  if v2 = 0 then
    jcl (f_X12_bad (-2) S1) (fun v5 S4 =>
    some (v5, S4))
  else
    jcv (f_X12_layHand  S1) (fun S3 =>
    lp_X12_quarrels_25  (f_X12_quarrels_55) x1 0 0 S3))
def f_X12_quarrels (x1 : Int32) (S : jS) : Option (Int32 × jS) := f_X12_quarrels_e x1 S
def f_X11_isBit_14   (a0 : Int32) (S : jS) : Option (Int32 × jS) :=
  jzr a0 S
def f_X11_isBit_9    (S : jS) : Option (Int32 × jS) :=
  f_X11_isBit_14   1 S
def f_X11_isBit_e   (x0 : Int32) (S : jS) : Option (Int32 × jS) :=
  if x0 = 0 then
    f_X11_isBit_9    S
  else
    if x0 = 1 then
      f_X11_isBit_9    S
    else
      f_X11_isBit_14   0 S
def f_X11_isBit (x0 : Int32) (S : jS) : Option (Int32 × jS) := f_X11_isBit_e x0 S
def f_J6_bitCount_0f7a4_e   (x0 : Int32) (S : jS) : Option (Int32 × jS) :=
  some (((((((((x0 - ((x0.toUInt32 >>> ((1 : Int32).toUInt32 &&& Int32.toUInt32 31)).toInt32 &&& 1431655765)) &&& 858993459) + ((((x0 - ((x0.toUInt32 >>> ((1 : Int32).toUInt32 &&& Int32.toUInt32 31)).toInt32 &&& 1431655765)) : Int32).toUInt32 >>> ((2 : Int32).toUInt32 &&& Int32.toUInt32 31)).toInt32 &&& 858993459)) + (((((x0 - ((x0.toUInt32 >>> ((1 : Int32).toUInt32 &&& Int32.toUInt32 31)).toInt32 &&& 1431655765)) &&& 858993459) + ((((x0 - ((x0.toUInt32 >>> ((1 : Int32).toUInt32 &&& Int32.toUInt32 31)).toInt32 &&& 1431655765)) : Int32).toUInt32 >>> ((2 : Int32).toUInt32 &&& Int32.toUInt32 31)).toInt32 &&& 858993459)) : Int32).toUInt32 >>> ((4 : Int32).toUInt32 &&& Int32.toUInt32 31)).toInt32) &&& 252645135) + (((((((x0 - ((x0.toUInt32 >>> ((1 : Int32).toUInt32 &&& Int32.toUInt32 31)).toInt32 &&& 1431655765)) &&& 858993459) + ((((x0 - ((x0.toUInt32 >>> ((1 : Int32).toUInt32 &&& Int32.toUInt32 31)).toInt32 &&& 1431655765)) : Int32).toUInt32 >>> ((2 : Int32).toUInt32 &&& Int32.toUInt32 31)).toInt32 &&& 858993459)) + (((((x0 - ((x0.toUInt32 >>> ((1 : Int32).toUInt32 &&& Int32.toUInt32 31)).toInt32 &&& 1431655765)) &&& 858993459) + ((((x0 - ((x0.toUInt32 >>> ((1 : Int32).toUInt32 &&& Int32.toUInt32 31)).toInt32 &&& 1431655765)) : Int32).toUInt32 >>> ((2 : Int32).toUInt32 &&& Int32.toUInt32 31)).toInt32 &&& 858993459)) : Int32).toUInt32 >>> ((4 : Int32).toUInt32 &&& Int32.toUInt32 31)).toInt32) &&& 252645135) : Int32).toUInt32 >>> ((8 : Int32).toUInt32 &&& Int32.toUInt32 31)).toInt32) + ((((((((x0 - ((x0.toUInt32 >>> ((1 : Int32).toUInt32 &&& Int32.toUInt32 31)).toInt32 &&& 1431655765)) &&& 858993459) + ((((x0 - ((x0.toUInt32 >>> ((1 : Int32).toUInt32 &&& Int32.toUInt32 31)).toInt32 &&& 1431655765)) : Int32).toUInt32 >>> ((2 : Int32).toUInt32 &&& Int32.toUInt32 31)).toInt32 &&& 858993459)) + (((((x0 - ((x0.toUInt32 >>> ((1 : Int32).toUInt32 &&& Int32.toUInt32 31)).toInt32 &&& 1431655765)) &&& 858993459) + ((((x0 - ((x0.toUInt32 >>> ((1 : Int32).toUInt32 &&& Int32.toUInt32 31)).toInt32 &&& 1431655765)) : Int32).toUInt32 >>> ((2 : Int32).toUInt32 &&& Int32.toUInt32 31)).toInt32 &&& 858993459)) : Int32).toUInt32 >>> ((4 : Int32).toUInt32 &&& Int32.toUInt32 31)).toInt32) &&& 252645135) + (((((((x0 - ((x0.toUInt32 >>> ((1 : Int32).toUInt32 &&& Int32.toUInt32 31)).toInt32 &&& 1431655765)) &&& 858993459) + ((((x0 - ((x0.toUInt32 >>> ((1 : Int32).toUInt32 &&& Int32.toUInt32 31)).toInt32 &&& 1431655765)) : Int32).toUInt32 >>> ((2 : Int32).toUInt32 &&& Int32.toUInt32 31)).toInt32 &&& 858993459)) + (((((x0 - ((x0.toUInt32 >>> ((1 : Int32).toUInt32 &&& Int32.toUInt32 31)).toInt32 &&& 1431655765)) &&& 858993459) + ((((x0 - ((x0.toUInt32 >>> ((1 : Int32).toUInt32 &&& Int32.toUInt32 31)).toInt32 &&& 1431655765)) : Int32).toUInt32 >>> ((2 : Int32).toUInt32 &&& Int32.toUInt32 31)).toInt32 &&& 858993459)) : Int32).toUInt32 >>> ((4 : Int32).toUInt32 &&& Int32.toUInt32 31)).toInt32) &&& 252645135) : Int32).toUInt32 >>> ((8 : Int32).toUInt32 &&& Int32.toUInt32 31)).toInt32) : Int32).toUInt32 >>> ((16 : Int32).toUInt32 &&& Int32.toUInt32 31)).toInt32) &&& 63), S)
def f_J6_bitCount_0f7a4 (x0 : Int32) (S : jS) : Option (Int32 × jS) := f_J6_bitCount_0f7a4_e x0 S
def f_X11_quarrels_49   (a0 : Int32) (S : jS) : Option (Int32 × jS) :=
  some (a0, S)
def f_X11_quarrels_e   (x1 : Int32) (S : jS) : Option (Int32 × jS) :=
  jcl (f_X11_isBit x1 S) (fun v2 S1 =>
  if v2 = 0 then
    jcl (f_X11_refuseBad  S1) (fun v10 S9 =>
    some (v10, S9))
  else
    jcl (f_X2_quarrelling_r22 (S1.1 21 1) S1) (fun v4 S3 =>
    if x1 = 0 then
      jcl (f_X4_bothOf v4 S3) (fun v8 S7 =>
      f_X11_quarrels_49   v8 S7)
    else
      jcl (f_J6_bitCount_0f7a4 v4 S3) (fun v6 S5 =>
      f_X11_quarrels_49   v6 S5)))
def f_X11_quarrels (x1 : Int32) (S : jS) : Option (Int32 × jS) := f_X11_quarrels_e x1 S
def f_X12_away_45  (g : Int32 → Int32 → Int32 → jS → Option (Int32 × jS)) (k52 : Int32 → Int32 → jS → Option (Int32 × jS)) (a0 : Int32) (a1 : Int32) (x1 : Int32) (x2 : Int32) (x3 : Int32) (S : jS) : Option (Int32 × jS) :=
  jst S 47 a1 8 a0 (fun S1 =>
  g x1 x2 (x3 + 1) S1)
def f_X12_away_15  (g : Int32 → Int32 → Int32 → jS → Option (Int32 × jS)) (k52 : Int32 → Int32 → jS → Option (Int32 × jS)) (x1 : Int32) (x2 : Int32) (x3 : Int32) (S : jS) : Option (Int32 × jS) :=
  if x3 < 8 then
    if ((x2 >>> (x3 &&& 31)) &&& 1) = 1 then
      f_X12_away_45  g k52 0 x3 x1 x2 x3 S
    else
      jld S 42 x3 149 (fun v1 =>
      f_X12_away_45  g k52 v1 x3 x1 x2 x3 S)
  else
    k52 x1 x2 S
def lp_X12_away_15  (k52 : Int32 → Int32 → jS → Option (Int32 × jS)) (x1 : Int32) (x2 : Int32) (x3 : Int32) (S : jS) : Option (Int32 × jS) := jloop (α := Int32 × Int32 × Int32 × jS) (fun g q => f_X12_away_15  (fun x1 x2 x3 S => g (x1, x2, x3, S)) k52 q.1 q.2.1 q.2.2.1 q.2.2.2) jN (x1, x2, x3, S)
def f_X12_away_75  (g : Int32 → Int32 → jS → Option (Int32 × jS)) (k82 : Int32 → jS → Option (Int32 × jS)) (a0 : Int32) (x2 : Int32) (S : jS) : Option (Int32 × jS) :=
  g a0 (x2 + 1) S
def f_X12_away_74  (g : Int32 → Int32 → jS → Option (Int32 × jS)) (k82 : Int32 → jS → Option (Int32 × jS)) (x1 : Int32) (x2 : Int32) (S : jS) : Option (Int32 × jS) :=
  f_X12_away_75  g k82 x1 x2 S
def f_X12_away_52  (g : Int32 → Int32 → jS → Option (Int32 × jS)) (k82 : Int32 → jS → Option (Int32 × jS)) (x1 : Int32) (x2 : Int32) (S : jS) : Option (Int32 × jS) :=
  jcl (f_X12_bits x2 S) (fun v2 S1 =>
  jcl (f_X12_bits x1 S1) (fun v4 S3 =>
  if v2 < v4 then
    jcl (f_X12_manyQuarrels  S3) (fun v6 S5 =>
    if v6 = 0 then
      f_X12_away_75  g k82 x2 x2 S5
    else
      f_X12_away_74  g k82 x1 x2 S5)
  else
    f_X12_away_74  g k82 x1 x2 S3))
def f_X12_away_6  (g : Int32 → Int32 → jS → Option (Int32 × jS)) (k82 : Int32 → jS → Option (Int32 × jS)) (x1 : Int32) (x2 : Int32) (S : jS) : Option (Int32 × jS) :=
  if x2 < 255 then
    lp_X12_away_15  (f_X12_away_52  g k82) x1 x2 0 S
  else
    k82 x1 S
def lp_X12_away_6  (k82 : Int32 → jS → Option (Int32 × jS)) (x1 : Int32) (x2 : Int32) (S : jS) : Option (Int32 × jS) := jloop (α := Int32 × Int32 × jS) (fun g q => f_X12_away_6  (fun x1 x2 S => g (x1, x2, S)) k82 q.1 q.2.1 q.2.2) jN (x1, x2, S)
def f_X12_away_82   (x1 : Int32) (S : jS) : Option (Int32 × jS) :=
  some (x1, S)
def f_X12_away_e    (S : jS) : Option (Int32 × jS) :=
  lp_X12_away_6  (f_X12_away_82) 255 0 S
def f_X12_away  (S : jS) : Option (Int32 × jS) := f_X12_away_e  S
def f_X4_fewestAway_48  (g : Int32 → Int32 → Int32 → jS → Option (Int32 × jS)) (k54 : Int32 → jS → Option (Int32 × jS)) (x0 : Int32) (x1 : Int32) (x2 : Int32) (S : jS) : Option (Int32 × jS) :=
  g x0 x1 (x2 + 1) S
def f_X4_fewestAway_30  (g : Int32 → Int32 → Int32 → jS → Option (Int32 × jS)) (k54 : Int32 → jS → Option (Int32 × jS)) (a0 : Int32) (x0 : Int32) (x1 : Int32) (x2 : Int32) (S : jS) : Option (Int32 × jS) :=
  if a0 = 0 then
    f_X4_fewestAway_48  g k54 x0 x1 x2 S
  else
    jcl (f_J6_bitCount_0f7a4 x2 S) (fun v2 S1 =>
    jcl (f_J6_bitCount_0f7a4 x1 S1) (fun v4 S3 =>
    if v2 < v4 then
      f_X4_fewestAway_48  g k54 x0 x2 x2 S3
    else
      f_X4_fewestAway_48  g k54 x0 x1 x2 S3))
def f_X4_fewestAway_6  (g : Int32 → Int32 → Int32 → jS → Option (Int32 × jS)) (k54 : Int32 → jS → Option (Int32 × jS)) (x0 : Int32) (x1 : Int32) (x2 : Int32) (S : jS) : Option (Int32 × jS) :=
  if x2 < 256 then
    if (x0 &&& ((x2 ||| (x2 >>> (1 &&& 31))) ^^^ (-1))) = 0 then
      f_X4_fewestAway_30  g k54 1 x0 x1 x2 S
    else
      f_X4_fewestAway_30  g k54 0 x0 x1 x2 S
  else
    k54 x1 S
def lp_X4_fewestAway_6  (k54 : Int32 → jS → Option (Int32 × jS)) (x0 : Int32) (x1 : Int32) (x2 : Int32) (S : jS) : Option (Int32 × jS) := jloop (α := Int32 × Int32 × Int32 × jS) (fun g q => f_X4_fewestAway_6  (fun x0 x1 x2 S => g (x0, x1, x2, S)) k54 q.1 q.2.1 q.2.2.1 q.2.2.2) jN (x0, x1, x2, S)
def f_X4_fewestAway_54   (x1 : Int32) (S : jS) : Option (Int32 × jS) :=
  some (x1, S)
def f_X4_fewestAway_e   (x0 : Int32) (S : jS) : Option (Int32 × jS) :=
  lp_X4_fewestAway_6  (f_X4_fewestAway_54) x0 255 0 S
def f_X4_fewestAway (x0 : Int32) (S : jS) : Option (Int32 × jS) := f_X4_fewestAway_e x0 S
def f_X11_away_e    (S : jS) : Option (Int32 × jS) :=
  jcl (f_X2_quarrelling_r22 (S.1 21 1) S) (fun v2 S1 =>
  jcl (f_X4_fewestAway v2 S1) (fun v4 S3 =>
  some (v4, S3)))
def f_X11_away  (S : jS) : Option (Int32 × jS) := f_X11_away_e  S
def f_X12_nextLived_2  (g : Int32 → jS → Option (Int32 × jS)) (k23 : Int32 → jS → Option (Int32 × jS)) (x2 : Int32) (S : jS) : Option (Int32 × jS) :=
  if x2 < 8 then
    jld S 42 x2 149 (fun v1 =>
    if v1 = 0 then
      g (x2 + 1) S
    else
      k23 x2 S)
  else
    k23 x2 S
def lp_X12_nextLived_2  (k23 : Int32 → jS → Option (Int32 × jS)) (x2 : Int32) (S : jS) : Option (Int32 × jS) := jloop (α := Int32 × jS) (fun g q => f_X12_nextLived_2  (fun x2 S => g (x2, S)) k23 q.1 q.2) jN (x2, S)
def f_X12_nextLived_23   (x2 : Int32) (S : jS) : Option (Int32 × jS) :=
  some (x2, S)
def f_X12_nextLived_e   (x1 : Int32) (S : jS) : Option (Int32 × jS) :=
  lp_X12_nextLived_2  (f_X12_nextLived_23) x1 S
def f_X12_nextLived (x1 : Int32) (S : jS) : Option (Int32 × jS) := f_X12_nextLived_e x1 S
def f_X12_isTaken_41  (g : Int32 → Int32 → Int32 → Int32 → jS → Option (Int32 × jS)) (k48 : Int32 → jS → Option (Int32 × jS)) (a0 : Int32) (x1 : Int32) (x2 : Int32) (x4 : Int32) (S : jS) : Option (Int32 × jS) :=
  g x1 x2 a0 (x4 + 1) S
def f_X12_isTaken_36  (g : Int32 → Int32 → Int32 → Int32 → jS → Option (Int32 × jS)) (k48 : Int32 → jS → Option (Int32 × jS)) (x1 : Int32) (x2 : Int32) (x4 : Int32) (S : jS) : Option (Int32 × jS) :=
  f_X12_isTaken_41  g k48 1 x1 x2 x4 S
def f_X12_isTaken_40  (g : Int32 → Int32 → Int32 → Int32 → jS → Option (Int32 × jS)) (k48 : Int32 → jS → Option (Int32 × jS)) (x1 : Int32) (x2 : Int32) (x4 : Int32) (S : jS) : Option (Int32 × jS) :=
  f_X12_isTaken_41  g k48 0 x1 x2 x4 S
def f_X12_isTaken_5  (g : Int32 → Int32 → Int32 → Int32 → jS → Option (Int32 × jS)) (k48 : Int32 → jS → Option (Int32 × jS)) (x1 : Int32) (x2 : Int32) (x3 : Int32) (x4 : Int32) (S : jS) : Option (Int32 × jS) :=
  if x4 < x2 then
    if x3 = 0 then
      jld S 42 x4 149 (fun v1 =>
      if 0 < v1 then
        jld S 48 x4 9 (fun v2 =>
        if v2 = x1 then
          f_X12_isTaken_36  g k48 x1 x2 x4 S
        else
          f_X12_isTaken_40  g k48 x1 x2 x4 S)
      else
        f_X12_isTaken_40  g k48 x1 x2 x4 S)
    else
      f_X12_isTaken_36  g k48 x1 x2 x4 S
  else
    k48 x3 S
def lp_X12_isTaken_5  (k48 : Int32 → jS → Option (Int32 × jS)) (x1 : Int32) (x2 : Int32) (x3 : Int32) (x4 : Int32) (S : jS) : Option (Int32 × jS) := jloop (α := Int32 × Int32 × Int32 × Int32 × jS) (fun g q => f_X12_isTaken_5  (fun x1 x2 x3 x4 S => g (x1, x2, x3, x4, S)) k48 q.1 q.2.1 q.2.2.1 q.2.2.2.1 q.2.2.2.2) jN (x1, x2, x3, x4, S)
def f_X12_isTaken_48   (x3 : Int32) (S : jS) : Option (Int32 × jS) :=
  jzr x3 S
def f_X12_isTaken_e   (x1 : Int32) (x2 : Int32) (S : jS) : Option (Int32 × jS) :=
  lp_X12_isTaken_5  (f_X12_isTaken_48) x1 x2 0 0 S
def f_X12_isTaken (x1 : Int32) (x2 : Int32) (S : jS) : Option (Int32 × jS) := f_X12_isTaken_e x1 x2 S
def f_X12_nextComer_59  (g : Int32 → Int32 → jS → Option (Int32 × jS)) (k70 : Int32 → jS → Option (Int32 × jS)) (x1 : Int32) (x3 : Int32) (S : jS) : Option (Int32 × jS) :=
  jcl (f_X12_nextLived (x3 + 1) S) (fun v2 S1 =>
  g x1 v2 S1)
def f_X12_nextComer_8  (g : Int32 → Int32 → jS → Option (Int32 × jS)) (k70 : Int32 → jS → Option (Int32 × jS)) (x1 : Int32) (x3 : Int32) (S : jS) : Option (Int32 × jS) :=
  if x3 < 8 then
    jcl (f_X12_isTaken x3 x1 S) (fun v2 S1 =>
    if v2 = 0 then
      if 0 < x1 then
        jld S1 47 (x1 - 1) 8 (fun v3 =>
        if 0 < v3 then
          jld S1 47 (x1 - 1) 8 (fun v4 =>
          jld S1 42 x3 149 (fun v5 =>
          jcl (f_X12_mayNow v4 v5 S1) (fun v7 S6 =>
          if v7 = 0 then
            f_X12_nextComer_59  g k70 x1 x3 S6
          else
            k70 x3 S6)))
        else
          k70 x3 S1)
      else
        k70 x3 S1
    else
      f_X12_nextComer_59  g k70 x1 x3 S1)
  else
    k70 x3 S
def lp_X12_nextComer_8  (k70 : Int32 → jS → Option (Int32 × jS)) (x1 : Int32) (x3 : Int32) (S : jS) : Option (Int32 × jS) := jloop (α := Int32 × Int32 × jS) (fun g q => f_X12_nextComer_8  (fun x1 x3 S => g (x1, x3, S)) k70 q.1 q.2.1 q.2.2) jN (x1, x3, S)
def f_X12_nextComer_70   (x3 : Int32) (S : jS) : Option (Int32 × jS) :=
  some (x3, S)
def f_X12_nextComer_e   (x1 : Int32) (x2 : Int32) (S : jS) : Option (Int32 × jS) :=
  jcl (f_X12_nextLived (x2 + 1) S) (fun v2 S1 =>
  lp_X12_nextComer_8  (f_X12_nextComer_70) x1 v2 S1)
def f_X12_nextComer (x1 : Int32) (x2 : Int32) (S : jS) : Option (Int32 × jS) := f_X12_nextComer_e x1 x2 S
def f_X12_lastLived_2  (g : Int32 → jS → Option (Int32 × jS)) (k21 : Int32 → jS → Option (Int32 × jS)) (x2 : Int32) (S : jS) : Option (Int32 × jS) :=
  if x2 < 0 then
    k21 x2 S
  else
    jld S 42 x2 149 (fun v1 =>
    if v1 = 0 then
      g (x2 + (-1)) S
    else
      k21 x2 S)
def lp_X12_lastLived_2  (k21 : Int32 → jS → Option (Int32 × jS)) (x2 : Int32) (S : jS) : Option (Int32 × jS) := jloop (α := Int32 × jS) (fun g q => f_X12_lastLived_2  (fun x2 S => g (x2, S)) k21 q.1 q.2) jN (x2, S)
def f_X12_lastLived_21   (x2 : Int32) (S : jS) : Option (Int32 × jS) :=
  some (x2, S)
def f_X12_lastLived_e   (x1 : Int32) (S : jS) : Option (Int32 × jS) :=
  lp_X12_lastLived_2  (f_X12_lastLived_21) x1 S
def f_X12_lastLived (x1 : Int32) (S : jS) : Option (Int32 × jS) := f_X12_lastLived_e x1 S
def f_X12_judgeOrder_64  (g : Int32 → Int32 → jS → Option (jS)) (k71 : Int32 → jS → Option (jS)) (a0 : Int32) (a1 : Int32) (x1 : Int32) (x2 : Int32) (S : jS) : Option (jS) :=
  jst S 49 a1 8 a0 (fun S1 =>
  g x1 (x2 + 1) S1)
def f_X12_judgeOrder_35  (g : Int32 → Int32 → jS → Option (jS)) (k71 : Int32 → jS → Option (jS)) (a0 : Int32) (a1 : Int32) (x2 : Int32) (S : jS) : Option (jS) :=
  if (S.1 41 10) = 0 then
    jld S 47 x2 8 (fun v2 =>
    f_X12_judgeOrder_64  g k71 v2 x2 (a1 + a0) x2 S)
  else
    jld S 49 x2 8 (fun v1 =>
    f_X12_judgeOrder_64  g k71 v1 x2 (a1 + a0) x2 S)
def f_X12_judgeOrder_34  (g : Int32 → Int32 → jS → Option (jS)) (k71 : Int32 → jS → Option (jS)) (a0 : Int32) (x2 : Int32) (S : jS) : Option (jS) :=
  f_X12_judgeOrder_35  g k71 0 a0 x2 S
def f_X12_judgeOrder_4  (g : Int32 → Int32 → jS → Option (jS)) (k71 : Int32 → jS → Option (jS)) (x1 : Int32) (x2 : Int32) (S : jS) : Option (jS) :=
  if x2 < 8 then
    jld S 42 x2 149 (fun v1 =>
    if 0 < v1 then
      jld S 48 x2 9 (fun v2 =>
      if v2 = x2 then
        f_X12_judgeOrder_34  g k71 x1 x2 S
      else
        f_X12_judgeOrder_35  g k71 1 x1 x2 S)
    else
      f_X12_judgeOrder_34  g k71 x1 x2 S)
  else
    k71 x1 S
def lp_X12_judgeOrder_4  (k71 : Int32 → jS → Option (jS)) (x1 : Int32) (x2 : Int32) (S : jS) : Option (jS) := jloop (α := Int32 × Int32 × jS) (fun g q => f_X12_judgeOrder_4  (fun x1 x2 S => g (x1, x2, S)) k71 q.1 q.2.1 q.2.2) jN (x1, x2, S)
def f_X12_judgeOrder_98   (a0 : Int32) (S : jS) : Option (jS) :=
  jpt S 41 11 a0 (fun S1 =>
  some S1)
def f_X12_judgeOrder_71   (x1 : Int32) (S : jS) : Option (jS) :=
  jpt S 41 10 ((S.1 41 10) + 1) (fun S1 =>
  if x1 < (S1.1 41 11) then
    f_X12_judgeOrder_98   x1 S1
  else
    f_X12_judgeOrder_98   (S1.1 41 11) S1)
def f_X12_judgeOrder_e    (S : jS) : Option (jS) :=
  lp_X12_judgeOrder_4  (f_X12_judgeOrder_71) 0 0 S
def f_X12_judgeOrder  (S : jS) : Option (jS) := f_X12_judgeOrder_e  S
def f_X12_layOrders_13  (g : Int32 → jS → Option (jS)) (k39 : jS → Option (jS)) (x1 : Int32) (S : jS) : Option (jS) :=
  if x1 < 8 then
    jst S 47 x1 8 0 (fun S1 =>
    jst S1 48 x1 9 (-1) (fun S2 =>
    g (x1 + 1) S2))
  else
    k39  S
def lp_X12_layOrders_13  (k39 : jS → Option (jS)) (x1 : Int32) (S : jS) : Option (jS) := jloop (α := Int32 × jS) (fun g q => f_X12_layOrders_13  (fun x1 S => g (x1, S)) k39 q.1 q.2) jN (x1, S)
def f_X12_layOrders_45  (g : Int32 → jS → Option (jS)) (k163 : jS → Option (jS)) (x1 : Int32) (S : jS) : Option (jS) :=
  if x1 < 0 then
    k163  S
  else
    if x1 = 8 then
      jcv (f_X12_judgeOrder  S) (fun S16 =>
      jcl (f_X12_lastLived 7 S16) (fun v18 S17 =>
      g v18 S17))
    else
      jst S 47 x1 8 0 (fun S1 =>
      jld S1 48 x1 9 (fun v2 =>
      jcl (f_X12_nextComer x1 v2 S1) (fun v4 S3 =>
      jst S3 48 x1 9 v4 (fun S5 =>
      jld S5 48 x1 9 (fun v6 =>
      if v6 = 8 then
        jst S5 48 x1 9 (-1) (fun S13 =>
        jcl (f_X12_lastLived (x1 - 1) S13) (fun v15 S14 =>
        g v15 S14))
      else
        jld S5 48 x1 9 (fun v7 =>
        jld S5 42 v7 149 (fun v8 =>
        jst S5 47 x1 8 v8 (fun S9 =>
        jcl (f_X12_nextLived (x1 + 1) S9) (fun v11 S10 =>
        if v11 < 8 then
          jst S10 48 v11 9 (-1) (fun S12 =>
          g v11 S12)
        else
          g v11 S10)))))))))
def lp_X12_layOrders_45  (k163 : jS → Option (jS)) (x1 : Int32) (S : jS) : Option (jS) := jloop (α := Int32 × jS) (fun g q => f_X12_layOrders_45  (fun x1 S => g (x1, S)) k163 q.1 q.2) jN (x1, S)
def f_X12_layOrders_163    (S : jS) : Option (jS) :=
  some S
def f_X12_layOrders_39    (S : jS) : Option (jS) :=
  jcl (f_X12_nextLived 0 S) (fun v2 S1 =>
  lp_X12_layOrders_45  (f_X12_layOrders_163) v2 S1)
def f_X12_layOrders_e    (S : jS) : Option (jS) :=
  jpt S 41 10 0 (fun S1 =>
  jpt S1 41 11 1000000 (fun S2 =>
  lp_X12_layOrders_13  (f_X12_layOrders_39) 0 S2))
def f_X12_layOrders  (S : jS) : Option (jS) := f_X12_layOrders_e  S
def f_X12_orders_54   (a0 : Int32) (S : jS) : Option (Int32 × jS) :=
  some (a0, S)
def f_X12_orders_e   (x1 : Int32) (S : jS) : Option (Int32 × jS) :=
  jcl (f_X12_in x1.toInt64 (-1) 7 S) (fun v2 S1 =>
  if v2 = 0 then
    jcl (f_X12_bad (-10) S1) (fun v6 S5 =>
    some (v6, S5))
  else
    jcv (f_X12_layOrders  S1) (fun S3 =>
    if x1 = (-1) then
      f_X12_orders_54   (S3.1 41 10) S3
    else
      if (S3.1 41 10) = 0 then
        f_X12_orders_54   (-1) S3
      else
        jld S3 49 x1 8 (fun v4 =>
        f_X12_orders_54   v4 S3)))
def f_X12_orders (x1 : Int32) (S : jS) : Option (Int32 × jS) := f_X12_orders_e x1 S
def f_X4_gather_r22_57  (g : Int32 → jS → Option (jS)) (k63 : jS → Option (jS)) (x2 : Int32) (S : jS) : Option (jS) :=
  g (x2 + 1) S
def f_X4_gather_r22_7  (g : Int32 → jS → Option (jS)) (k63 : jS → Option (jS)) (x2 : Int32) (S : jS) : Option (jS) :=
  if x2 < 8 then
    if x2 < 8 then
      jld S 22 x2 8 (fun v1 =>
      if 0 < v1 then
        jst S 14 (S.1 12 6) 8 x2 (fun S2 =>
        jld S2 22 x2 8 (fun v3 =>
        jst S2 13 (S2.1 12 6) 8 v3 (fun S4 =>
        jpt S4 12 6 ((S4.1 12 6) + 1) (fun S5 =>
        f_X4_gather_r22_57  g k63 x2 S5))))
      else
        f_X4_gather_r22_57  g k63 x2 S)
    else
      k63  S
  else
    k63  S
def lp_X4_gather_r22_7  (k63 : jS → Option (jS)) (x2 : Int32) (S : jS) : Option (jS) := jloop (α := Int32 × jS) (fun g q => f_X4_gather_r22_7  (fun x2 S => g (x2, S)) k63 q.1 q.2) jN (x2, S)
def f_X4_gather_r22_63    (S : jS) : Option (jS) :=
  some S
def f_X4_gather_r22_e    (S : jS) : Option (jS) :=
  jpt S 12 6 0 (fun S1 =>
  lp_X4_gather_r22_7  (f_X4_gather_r22_63) 0 S1)
def f_X4_gather_r22  (S : jS) : Option (jS) := f_X4_gather_r22_e  S
def f_X4_settle_r22_71  (g : Int32 → Int32 → Int32 → jS → Option (jS)) (k77 : Int32 → Int32 → jS → Option (jS)) (x1 : Int32) (x3 : Int32) (x4 : Int32) (S : jS) : Option (jS) :=
  g x1 x3 (x4 + 1) S
def f_X4_settle_r22_25  (g : Int32 → Int32 → Int32 → jS → Option (jS)) (k77 : Int32 → Int32 → jS → Option (jS)) (x1 : Int32) (x3 : Int32) (x4 : Int32) (S : jS) : Option (jS) :=
  if x4 < (S.1 12 6) then
    jld S 13 x3 8 (fun v1 =>
    jld S 13 x4 8 (fun v2 =>
    jcl (f_X2_allows x1 v1 v2 S) (fun v4 S3 =>
    if v4 = 0 then
      f_X4_settle_r22_71  g k77 x1 x3 x4 S3
    else
      jld S3 15 x3 8 (fun v5 =>
      jst S3 15 x3 8 (v5 ||| (1 <<< (x4 &&& 31))) (fun S6 =>
      f_X4_settle_r22_71  g k77 x1 x3 x4 S6)))))
  else
    k77 x1 x3 S
def lp_X4_settle_r22_25  (k77 : Int32 → Int32 → jS → Option (jS)) (x1 : Int32) (x3 : Int32) (x4 : Int32) (S : jS) : Option (jS) := jloop (α := Int32 × Int32 × Int32 × jS) (fun g q => f_X4_settle_r22_25  (fun x1 x3 x4 S => g (x1, x3, x4, S)) k77 q.1 q.2.1 q.2.2.1 q.2.2.2) jN (x1, x3, x4, S)
def f_X4_settle_r22_77  (g : Int32 → Int32 → jS → Option (jS)) (k83 : jS → Option (jS)) (x1 : Int32) (x3 : Int32) (S : jS) : Option (jS) :=
  g x1 (x3 + 1) S
def f_X4_settle_r22_7  (g : Int32 → Int32 → jS → Option (jS)) (k83 : jS → Option (jS)) (x1 : Int32) (x3 : Int32) (S : jS) : Option (jS) :=
  if x3 < (S.1 12 6) then
    jst S 15 x3 8 0 (fun S1 =>
    lp_X4_settle_r22_25  (f_X4_settle_r22_77  g k83) x1 x3 0 S1)
  else
    k83  S
def lp_X4_settle_r22_7  (k83 : jS → Option (jS)) (x1 : Int32) (x3 : Int32) (S : jS) : Option (jS) := jloop (α := Int32 × Int32 × jS) (fun g q => f_X4_settle_r22_7  (fun x1 x3 S => g (x1, x3, S)) k83 q.1 q.2.1 q.2.2) jN (x1, x3, S)
def f_X4_settle_r22_83    (S : jS) : Option (jS) :=
  some S
def f_X4_settle_r22_e   (x1 : Int32) (S : jS) : Option (jS) :=
  jcv (f_X4_gather_r22  S) (fun S1 =>
  lp_X4_settle_r22_7  (f_X4_settle_r22_83) x1 0 S1)
def f_X4_settle_r22 (x1 : Int32) (S : jS) : Option (jS) := f_X4_settle_r22_e x1 S
def f_X4_comers_76   (a0 : Int32) (S : jS) : Option (Int32 × jS) :=
  some (a0, S)
def f_X4_comers_55   (a0 : Int32) (x2 : Int32) (x4 : Int32) (S : jS) : Option (Int32 × jS) :=
  if a0 = 0 then
    f_X4_comers_76   x4 S
  else
    jld S 15 x2 8 (fun v1 =>
    f_X4_comers_76   (x4 &&& v1) S)
def f_X4_comers_54   (x2 : Int32) (x4 : Int32) (S : jS) : Option (Int32 × jS) :=
  f_X4_comers_55   0 x2 x4 S
def f_X4_comers_e   (x1 : Int32) (x2 : Int32) (S : jS) : Option (Int32 × jS) :=
  jcl (f_J6_bitCount_0f7a4 x1 S) (fun v2 S1 =>
  if 0 < v2 then
    if v2 < (S1.1 12 6) then
      jld S1 14 (v2 - 1) 8 (fun v3 =>
      jld S1 14 v2 8 (fun v4 =>
      if (v3 + 1) = v4 then
        f_X4_comers_55   1 x2 (((1 <<< ((S1.1 12 6) &&& 31)) - 1) &&& (x1 ^^^ (-1))) S1
      else
        f_X4_comers_54   x2 (((1 <<< ((S1.1 12 6) &&& 31)) - 1) &&& (x1 ^^^ (-1))) S1))
    else
      f_X4_comers_54   x2 (((1 <<< ((S1.1 12 6) &&& 31)) - 1) &&& (x1 ^^^ (-1))) S1
  else
    f_X4_comers_54   x2 (((1 <<< ((S1.1 12 6) &&& 31)) - 1) &&& (x1 ^^^ (-1))) S1)
def f_X4_comers (x1 : Int32) (x2 : Int32) (S : jS) : Option (Int32 × jS) := f_X4_comers_e x1 x2 S
def f_X4_sumOver_44  (g : Int32 → Int32 → Int32 → Int32 → jS → Option (Int32 × jS)) (k50 : Int32 → jS → Option (Int32 × jS)) (x1 : Int32) (x2 : Int32) (x3 : Int32) (x4 : Int32) (S : jS) : Option (Int32 × jS) :=
  g x1 x2 x3 (x4 + 1) S
def f_X4_sumOver_5  (g : Int32 → Int32 → Int32 → Int32 → jS → Option (Int32 × jS)) (k50 : Int32 → jS → Option (Int32 × jS)) (x1 : Int32) (x2 : Int32) (x3 : Int32) (x4 : Int32) (S : jS) : Option (Int32 × jS) :=
  if x4 < (S.1 12 6) then
    if ((x2 >>> (x4 &&& 31)) &&& 1) = 1 then
      jld S 16 (((x1 ||| (1 <<< (x4 &&& 31))) * 8) + x4) 2048 (fun v1 =>
      f_X4_sumOver_44  g k50 x1 x2 (x3 + v1) x4 S)
    else
      f_X4_sumOver_44  g k50 x1 x2 x3 x4 S
  else
    k50 x3 S
def lp_X4_sumOver_5  (k50 : Int32 → jS → Option (Int32 × jS)) (x1 : Int32) (x2 : Int32) (x3 : Int32) (x4 : Int32) (S : jS) : Option (Int32 × jS) := jloop (α := Int32 × Int32 × Int32 × Int32 × jS) (fun g q => f_X4_sumOver_5  (fun x1 x2 x3 x4 S => g (x1, x2, x3, x4, S)) k50 q.1 q.2.1 q.2.2.1 q.2.2.2.1 q.2.2.2.2) jN (x1, x2, x3, x4, S)
def f_X4_sumOver_50   (x3 : Int32) (S : jS) : Option (Int32 × jS) :=
  some (x3, S)
def f_X4_sumOver_e   (x1 : Int32) (x2 : Int32) (S : jS) : Option (Int32 × jS) :=
  lp_X4_sumOver_5  (f_X4_sumOver_50) x1 x2 0 0 S
def f_X4_sumOver (x1 : Int32) (x2 : Int32) (S : jS) : Option (Int32 × jS) := f_X4_sumOver_e x1 x2 S
def f_X4_countOrders_65  (g : Int32 → Int32 → Int32 → jS → Option (Int32 × jS)) (k71 : Int32 → Int32 → jS → Option (Int32 × jS)) (x1 : Int32) (x2 : Int32) (x3 : Int32) (S : jS) : Option (Int32 × jS) :=
  g x1 x2 (x3 + 1) S
def f_X4_countOrders_64  (g : Int32 → Int32 → Int32 → jS → Option (Int32 × jS)) (k71 : Int32 → Int32 → jS → Option (Int32 × jS)) (a0 : Int32) (a1 : Int32) (x1 : Int32) (x2 : Int32) (x3 : Int32) (S : jS) : Option (Int32 × jS) :=
  jst S 16 a1 2048 a0 (fun S1 =>
  f_X4_countOrders_65  g k71 x1 x2 x3 S1)
def f_X4_countOrders_17  (g : Int32 → Int32 → Int32 → jS → Option (Int32 × jS)) (k71 : Int32 → Int32 → jS → Option (Int32 × jS)) (x1 : Int32) (x2 : Int32) (x3 : Int32) (S : jS) : Option (Int32 × jS) :=
  if x3 < (S.1 12 6) then
    if ((x2 >>> (x3 &&& 31)) &&& 1) = 1 then
      if x2 = x1 then
        f_X4_countOrders_64  g k71 1 ((x2 * 8) + x3) x1 x2 x3 S
      else
        jcl (f_X4_comers x2 x3 S) (fun v2 S1 =>
        jcl (f_X4_sumOver x2 v2 S1) (fun v4 S3 =>
        f_X4_countOrders_64  g k71 v4 ((x2 * 8) + x3) x1 x2 x3 S3))
    else
      f_X4_countOrders_65  g k71 x1 x2 x3 S
  else
    k71 x1 x2 S
def lp_X4_countOrders_17  (k71 : Int32 → Int32 → jS → Option (Int32 × jS)) (x1 : Int32) (x2 : Int32) (x3 : Int32) (S : jS) : Option (Int32 × jS) := jloop (α := Int32 × Int32 × Int32 × jS) (fun g q => f_X4_countOrders_17  (fun x1 x2 x3 S => g (x1, x2, x3, S)) k71 q.1 q.2.1 q.2.2.1 q.2.2.2) jN (x1, x2, x3, S)
def f_X4_countOrders_71  (g : Int32 → Int32 → jS → Option (Int32 × jS)) (k77 : Int32 → jS → Option (Int32 × jS)) (x1 : Int32) (x2 : Int32) (S : jS) : Option (Int32 × jS) :=
  g x1 (x2 + (-1)) S
def f_X4_countOrders_11  (g : Int32 → Int32 → jS → Option (Int32 × jS)) (k77 : Int32 → jS → Option (Int32 × jS)) (x1 : Int32) (x2 : Int32) (S : jS) : Option (Int32 × jS) :=
  if 0 < x2 then
    lp_X4_countOrders_17  (f_X4_countOrders_71  g k77) x1 x2 0 S
  else
    k77 x1 S
def lp_X4_countOrders_11  (k77 : Int32 → jS → Option (Int32 × jS)) (x1 : Int32) (x2 : Int32) (S : jS) : Option (Int32 × jS) := jloop (α := Int32 × Int32 × jS) (fun g q => f_X4_countOrders_11  (fun x1 x2 S => g (x1, x2, S)) k77 q.1 q.2.1 q.2.2) jN (x1, x2, S)
def f_X4_countOrders_96   (a0 : Int32) (S : jS) : Option (Int32 × jS) :=
  some (a0, S)
def f_X4_countOrders_77   (x1 : Int32) (S : jS) : Option (Int32 × jS) :=
  if x1 = 0 then
    f_X4_countOrders_96   1 S
  else
    jcl (f_X4_comers 0 0 S) (fun v2 S1 =>
    jcl (f_X4_sumOver 0 v2 S1) (fun v4 S3 =>
    f_X4_countOrders_96   v4 S3))
def f_X4_countOrders_e    (S : jS) : Option (Int32 × jS) :=
  lp_X4_countOrders_11  (f_X4_countOrders_77) ((1 <<< ((S.1 12 6) &&& 31)) - 1) ((1 <<< ((S.1 12 6) &&& 31)) - 1) S
def f_X4_countOrders  (S : jS) : Option (Int32 × jS) := f_X4_countOrders_e  S
def f_X4_firstComer_39  (g : Int32 → Int32 → Int32 → jS → Option (Int32 × jS)) (k37 : Int32 → jS → Option (Int32 × jS)) (k45 : jS → Option (Int32 × jS)) (x1 : Int32) (x2 : Int32) (x3 : Int32) (S : jS) : Option (Int32 × jS) :=
  g x1 x2 (x3 + 1) S
def f_X4_firstComer_2  (g : Int32 → Int32 → Int32 → jS → Option (Int32 × jS)) (k37 : Int32 → jS → Option (Int32 × jS)) (k45 : jS → Option (Int32 × jS)) (x1 : Int32) (x2 : Int32) (x3 : Int32) (S : jS) : Option (Int32 × jS) :=
  if x3 < (S.1 12 6) then
    if ((x2 >>> (x3 &&& 31)) &&& 1) = 1 then
      jld S 16 (((x1 ||| (1 <<< (x3 &&& 31))) * 8) + x3) 2048 (fun v1 =>
      if 0 < v1 then
        k37 x3 S
      else
        f_X4_firstComer_39  g k37 k45 x1 x2 x3 S)
    else
      f_X4_firstComer_39  g k37 k45 x1 x2 x3 S
  else
    k45  S
def lp_X4_firstComer_2  (k37 : Int32 → jS → Option (Int32 × jS)) (k45 : jS → Option (Int32 × jS)) (x1 : Int32) (x2 : Int32) (x3 : Int32) (S : jS) : Option (Int32 × jS) := jloop (α := Int32 × Int32 × Int32 × jS) (fun g q => f_X4_firstComer_2  (fun x1 x2 x3 S => g (x1, x2, x3, S)) k37 k45 q.1 q.2.1 q.2.2.1 q.2.2.2) jN (x1, x2, x3, S)
def f_X4_firstComer_37   (x3 : Int32) (S : jS) : Option (Int32 × jS) :=
  some (x3, S)
def f_X4_firstComer_45    (S : jS) : Option (Int32 × jS) :=
  some (0, S)
def f_X4_firstComer_e   (x1 : Int32) (x2 : Int32) (S : jS) : Option (Int32 × jS) :=
  lp_X4_firstComer_2  (f_X4_firstComer_37) (f_X4_firstComer_45) x1 x2 0 S
def f_X4_firstComer (x1 : Int32) (x2 : Int32) (S : jS) : Option (Int32 × jS) := f_X4_firstComer_e x1 x2 S
def f_X4_inFirstOrder_7  (g : Int32 → Int32 → Int32 → Int32 → jS → Option (Int32 × jS)) (k45 : Int32 → jS → Option (Int32 × jS)) (k58 : jS → Option (Int32 × jS)) (x1 : Int32) (x2 : Int32) (x3 : Int32) (x4 : Int32) (S : jS) : Option (Int32 × jS) :=
  if x4 < (S.1 12 6) then
    jcl (f_X4_comers x2 x3 S) (fun v2 S1 =>
    jcl (f_X4_firstComer x2 v2 S1) (fun v4 S3 =>
    jld S3 14 x4 8 (fun v5 =>
    if v5 = x1 then
      k45 v4 S3
    else
      g x1 (x2 ||| (1 <<< (v4 &&& 31))) v4 (x4 + 1) S3)))
  else
    k58  S
def lp_X4_inFirstOrder_7  (k45 : Int32 → jS → Option (Int32 × jS)) (k58 : jS → Option (Int32 × jS)) (x1 : Int32) (x2 : Int32) (x3 : Int32) (x4 : Int32) (S : jS) : Option (Int32 × jS) := jloop (α := Int32 × Int32 × Int32 × Int32 × jS) (fun g q => f_X4_inFirstOrder_7  (fun x1 x2 x3 x4 S => g (x1, x2, x3, x4, S)) k45 k58 q.1 q.2.1 q.2.2.1 q.2.2.2.1 q.2.2.2.2) jN (x1, x2, x3, x4, S)
def f_X4_inFirstOrder_45   (x3 : Int32) (S : jS) : Option (Int32 × jS) :=
  jld S 13 x3 8 (fun v1 =>
  some (v1, S))
def f_X4_inFirstOrder_58    (S : jS) : Option (Int32 × jS) :=
  some (0, S)
def f_X4_inFirstOrder_e   (x1 : Int32) (S : jS) : Option (Int32 × jS) :=
  lp_X4_inFirstOrder_7  (f_X4_inFirstOrder_45) (f_X4_inFirstOrder_58) x1 0 0 0 S
def f_X4_inFirstOrder (x1 : Int32) (S : jS) : Option (Int32 × jS) := f_X4_inFirstOrder_e x1 S
def f_X11_refuseBadApart_e    (S : jS) : Option (Int32 × jS) :=
  jpt S 0 13 ((S.1 0 13) + 1) (fun S1 =>
  some ((-10), S1))
def f_X11_refuseBadApart  (S : jS) : Option (Int32 × jS) := f_X11_refuseBadApart_e  S
def f_X11_orders_69   (a0 : Int32) (S : jS) : Option (Int32 × jS) :=
  some (a0, S)
def f_X11_orders_17   (x1 : Int32) (S : jS) : Option (Int32 × jS) :=
  jcv (f_X4_settle_r22 (S.1 21 1) S) (fun S1 =>
  jcl (f_X4_countOrders  S1) (fun v3 S2 =>
  if x1 = (-1) then
    some (v3, S2)
  else
    if v3 = 0 then
      f_X11_orders_69   (-1) S2
    else
      jcl (f_X4_inFirstOrder x1 S2) (fun v5 S4 =>
      f_X11_orders_69   v5 S4)))
def f_X11_orders_e   (x1 : Int32) (S : jS) : Option (Int32 × jS) :=
  if x1 = (-1) then
    f_X11_orders_17   x1 S
  else
    jcl (f_X11_isHouse x1 S) (fun v2 S1 =>
    if v2 = 0 then
      jcl (f_X11_refuseBadApart  S1) (fun v4 S3 =>
      some (v4, S3))
    else
      f_X11_orders_17   x1 S1)
def f_X11_orders (x1 : Int32) (S : jS) : Option (Int32 × jS) := f_X11_orders_e x1 S
def f_X12_moved_19   (a0 : Int32) (S : jS) : Option (Int32 × jS) :=
  some (a0, S)
def f_X12_moved_e    (S : jS) : Option (Int32 × jS) :=
  jcv (f_X12_layOrders  S) (fun S1 =>
  if (S1.1 41 10) = 0 then
    f_X12_moved_19   (-1) S1
  else
    f_X12_moved_19   (S1.1 41 11) S1)
def f_X12_moved  (S : jS) : Option (Int32 × jS) := f_X12_moved_e  S
def f_X4_leastOver_96  (g : Int32 → Int32 → Int32 → Int32 → Int32 → jS → Option (Int32 × jS)) (k102 : Int32 → jS → Option (Int32 × jS)) (x1 : Int32) (x2 : Int32) (x3 : Int32) (x4 : Int32) (x5 : Int32) (S : jS) : Option (Int32 × jS) :=
  g x1 x2 x3 x4 (x5 + 1) S
def f_X4_leastOver_94  (g : Int32 → Int32 → Int32 → Int32 → Int32 → jS → Option (Int32 × jS)) (k102 : Int32 → jS → Option (Int32 × jS)) (a0 : Int32) (x1 : Int32) (x2 : Int32) (x3 : Int32) (x5 : Int32) (S : jS) : Option (Int32 × jS) :=
  f_X4_leastOver_96  g k102 x1 x2 x3 a0 x5 S
def f_X4_leastOver_74  (g : Int32 → Int32 → Int32 → Int32 → Int32 → jS → Option (Int32 × jS)) (k102 : Int32 → jS → Option (Int32 × jS)) (a0 : Int32) (x1 : Int32) (x2 : Int32) (x3 : Int32) (x4 : Int32) (x5 : Int32) (S : jS) : Option (Int32 × jS) :=
  if x4 = (-1) then
    f_X4_leastOver_94  g k102 a0 x1 x2 x3 x5 S
  else
    f_X4_leastOver_94  g k102 (if a0 < x4 then a0 else x4) x1 x2 x3 x5 S
def f_X4_leastOver_51  (g : Int32 → Int32 → Int32 → Int32 → Int32 → jS → Option (Int32 × jS)) (k102 : Int32 → jS → Option (Int32 × jS)) (a0 : Int32) (x1 : Int32) (x2 : Int32) (x3 : Int32) (x4 : Int32) (x5 : Int32) (S : jS) : Option (Int32 × jS) :=
  if a0 = (-1) then
    f_X4_leastOver_96  g k102 x1 x2 x3 x4 x5 S
  else
    if x5 = x3 then
      f_X4_leastOver_74  g k102 a0 x1 x2 x3 x4 x5 S
    else
      f_X4_leastOver_74  g k102 (a0 + 1) x1 x2 x3 x4 x5 S
def f_X4_leastOver_11  (g : Int32 → Int32 → Int32 → Int32 → Int32 → jS → Option (Int32 × jS)) (k102 : Int32 → jS → Option (Int32 × jS)) (x1 : Int32) (x2 : Int32) (x3 : Int32) (x4 : Int32) (x5 : Int32) (S : jS) : Option (Int32 × jS) :=
  if x5 < (S.1 12 6) then
    if ((x2 >>> (x5 &&& 31)) &&& 1) = 1 then
      jld S 16 (((x1 ||| (1 <<< (x5 &&& 31))) * 8) + x5) 2048 (fun v1 =>
      f_X4_leastOver_51  g k102 v1 x1 x2 x3 x4 x5 S)
    else
      f_X4_leastOver_51  g k102 (-1) x1 x2 x3 x4 x5 S
  else
    k102 x4 S
def lp_X4_leastOver_11  (k102 : Int32 → jS → Option (Int32 × jS)) (x1 : Int32) (x2 : Int32) (x3 : Int32) (x4 : Int32) (x5 : Int32) (S : jS) : Option (Int32 × jS) := jloop (α := Int32 × Int32 × Int32 × Int32 × Int32 × jS) (fun g q => f_X4_leastOver_11  (fun x1 x2 x3 x4 x5 S => g (x1, x2, x3, x4, x5, S)) k102 q.1 q.2.1 q.2.2.1 q.2.2.2.1 q.2.2.2.2.1 q.2.2.2.2.2) jN (x1, x2, x3, x4, x5, S)
def f_X4_leastOver_102   (x4 : Int32) (S : jS) : Option (Int32 × jS) :=
  some (x4, S)
def f_X4_leastOver_e   (x1 : Int32) (x2 : Int32) (S : jS) : Option (Int32 × jS) :=
  jcl (f_J6_bitCount_0f7a4 x1 S) (fun v2 S1 =>
  lp_X4_leastOver_11  (f_X4_leastOver_102) x1 x2 v2 (-1) 0 S1)
def f_X4_leastOver (x1 : Int32) (x2 : Int32) (S : jS) : Option (Int32 × jS) := f_X4_leastOver_e x1 x2 S
def f_X4_leastMoved_65  (g : Int32 → Int32 → Int32 → jS → Option (Int32 × jS)) (k71 : Int32 → Int32 → jS → Option (Int32 × jS)) (x1 : Int32) (x2 : Int32) (x3 : Int32) (S : jS) : Option (Int32 × jS) :=
  g x1 x2 (x3 + 1) S
def f_X4_leastMoved_64  (g : Int32 → Int32 → Int32 → jS → Option (Int32 × jS)) (k71 : Int32 → Int32 → jS → Option (Int32 × jS)) (a0 : Int32) (a1 : Int32) (x1 : Int32) (x2 : Int32) (x3 : Int32) (S : jS) : Option (Int32 × jS) :=
  jst S 16 a1 2048 a0 (fun S1 =>
  f_X4_leastMoved_65  g k71 x1 x2 x3 S1)
def f_X4_leastMoved_17  (g : Int32 → Int32 → Int32 → jS → Option (Int32 × jS)) (k71 : Int32 → Int32 → jS → Option (Int32 × jS)) (x1 : Int32) (x2 : Int32) (x3 : Int32) (S : jS) : Option (Int32 × jS) :=
  if x3 < (S.1 12 6) then
    if ((x2 >>> (x3 &&& 31)) &&& 1) = 1 then
      if x2 = x1 then
        f_X4_leastMoved_64  g k71 0 ((x2 * 8) + x3) x1 x2 x3 S
      else
        jcl (f_X4_comers x2 x3 S) (fun v2 S1 =>
        jcl (f_X4_leastOver x2 v2 S1) (fun v4 S3 =>
        f_X4_leastMoved_64  g k71 v4 ((x2 * 8) + x3) x1 x2 x3 S3))
    else
      f_X4_leastMoved_65  g k71 x1 x2 x3 S
  else
    k71 x1 x2 S
def lp_X4_leastMoved_17  (k71 : Int32 → Int32 → jS → Option (Int32 × jS)) (x1 : Int32) (x2 : Int32) (x3 : Int32) (S : jS) : Option (Int32 × jS) := jloop (α := Int32 × Int32 × Int32 × jS) (fun g q => f_X4_leastMoved_17  (fun x1 x2 x3 S => g (x1, x2, x3, S)) k71 q.1 q.2.1 q.2.2.1 q.2.2.2) jN (x1, x2, x3, S)
def f_X4_leastMoved_71  (g : Int32 → Int32 → jS → Option (Int32 × jS)) (k77 : Int32 → jS → Option (Int32 × jS)) (x1 : Int32) (x2 : Int32) (S : jS) : Option (Int32 × jS) :=
  g x1 (x2 + (-1)) S
def f_X4_leastMoved_11  (g : Int32 → Int32 → jS → Option (Int32 × jS)) (k77 : Int32 → jS → Option (Int32 × jS)) (x1 : Int32) (x2 : Int32) (S : jS) : Option (Int32 × jS) :=
  if 0 < x2 then
    lp_X4_leastMoved_17  (f_X4_leastMoved_71  g k77) x1 x2 0 S
  else
    k77 x1 S
def lp_X4_leastMoved_11  (k77 : Int32 → jS → Option (Int32 × jS)) (x1 : Int32) (x2 : Int32) (S : jS) : Option (Int32 × jS) := jloop (α := Int32 × Int32 × jS) (fun g q => f_X4_leastMoved_11  (fun x1 x2 S => g (x1, x2, S)) k77 q.1 q.2.1 q.2.2) jN (x1, x2, S)
def f_X4_leastMoved_96   (a0 : Int32) (S : jS) : Option (Int32 × jS) :=
  some (a0, S)
def f_X4_leastMoved_77   (x1 : Int32) (S : jS) : Option (Int32 × jS) :=
  if x1 = 0 then
    f_X4_leastMoved_96   0 S
  else
    jcl (f_X4_comers 0 0 S) (fun v2 S1 =>
    jcl (f_X4_leastOver 0 v2 S1) (fun v4 S3 =>
    f_X4_leastMoved_96   v4 S3))
def f_X4_leastMoved_e    (S : jS) : Option (Int32 × jS) :=
  lp_X4_leastMoved_11  (f_X4_leastMoved_77) ((1 <<< ((S.1 12 6) &&& 31)) - 1) ((1 <<< ((S.1 12 6) &&& 31)) - 1) S
def f_X4_leastMoved  (S : jS) : Option (Int32 × jS) := f_X4_leastMoved_e  S
def f_X11_moved_e    (S : jS) : Option (Int32 × jS) :=
  jcv (f_X4_settle_r22 (S.1 21 1) S) (fun S1 =>
  jcl (f_X4_leastMoved  S1) (fun v3 S2 =>
  some (v3, S2)))
def f_X11_moved  (S : jS) : Option (Int32 × jS) := f_X11_moved_e  S
def f_X12_areApart_41   (a0 : Int32) (S : jS) : Option (Int32 × jS) :=
  jzr a0 S
def f_X12_areApart_40    (S : jS) : Option (Int32 × jS) :=
  f_X12_areApart_41   0 S
def f_X12_areApart_e   (x1 : Int32) (x2 : Int32) (S : jS) : Option (Int32 × jS) :=
  jld S 42 x1 149 (fun v1 =>
  jld S 42 x2 149 (fun v2 =>
  jcl (f_X12_divides v1 v2 S) (fun v4 S3 =>
  if v4 = 0 then
    jld S3 42 x2 149 (fun v5 =>
    jld S3 42 x1 149 (fun v6 =>
    jcl (f_X12_divides v5 v6 S3) (fun v8 S7 =>
    if v8 = 0 then
      f_X12_areApart_41   1 S7
    else
      f_X12_areApart_40    S7)))
  else
    f_X12_areApart_40    S3)))
def f_X12_areApart (x1 : Int32) (x2 : Int32) (S : jS) : Option (Int32 × jS) := f_X12_areApart_e x1 x2 S
def f_X12_lastsOf_109  (g : Int32 → Int32 → Int32 → jS → Option (Int32 × jS)) (k115 : Int32 → jS → Option (Int32 × jS)) (x1 : Int32) (x2 : Int32) (x3 : Int32) (S : jS) : Option (Int32 × jS) :=
  g x1 x2 (x3 + 1) S
def f_X12_lastsOf_86  (g : Int32 → Int32 → Int32 → Int32 → Int32 → Int32 → jS → Option (Int32 × jS)) (k94 : Int32 → Int32 → Int32 → Int32 → jS → Option (Int32 × jS)) (a0 : Int32) (x1 : Int32) (x2 : Int32) (x3 : Int32) (x4 : Int32) (x6 : Int32) (S : jS) : Option (Int32 × jS) :=
  g x1 x2 x3 x4 a0 (x6 + 1) S
def f_X12_lastsOf_81  (g : Int32 → Int32 → Int32 → Int32 → Int32 → Int32 → jS → Option (Int32 × jS)) (k94 : Int32 → Int32 → Int32 → Int32 → jS → Option (Int32 × jS)) (x1 : Int32) (x2 : Int32) (x3 : Int32) (x4 : Int32) (x6 : Int32) (S : jS) : Option (Int32 × jS) :=
  f_X12_lastsOf_86  g k94 1 x1 x2 x3 x4 x6 S
def f_X12_lastsOf_85  (g : Int32 → Int32 → Int32 → Int32 → Int32 → Int32 → jS → Option (Int32 × jS)) (k94 : Int32 → Int32 → Int32 → Int32 → jS → Option (Int32 × jS)) (x1 : Int32) (x2 : Int32) (x3 : Int32) (x4 : Int32) (x6 : Int32) (S : jS) : Option (Int32 × jS) :=
  f_X12_lastsOf_86  g k94 0 x1 x2 x3 x4 x6 S
def f_X12_lastsOf_43  (g : Int32 → Int32 → Int32 → Int32 → Int32 → Int32 → jS → Option (Int32 × jS)) (k94 : Int32 → Int32 → Int32 → Int32 → jS → Option (Int32 × jS)) (x1 : Int32) (x2 : Int32) (x3 : Int32) (x4 : Int32) (x5 : Int32) (x6 : Int32) (S : jS) : Option (Int32 × jS) :=
  if x6 < 8 then
    if x5 = 0 then
      jld S 50 x4 256 (fun v1 =>
      if ((v1 >>> (x6 &&& 31)) &&& 1) = 1 then
        jcl (f_X12_areApart x3 x6 S) (fun v3 S2 =>
        if v3 = 0 then
          f_X12_lastsOf_85  g k94 x1 x2 x3 x4 x6 S2
        else
          f_X12_lastsOf_81  g k94 x1 x2 x3 x4 x6 S2)
      else
        f_X12_lastsOf_85  g k94 x1 x2 x3 x4 x6 S)
    else
      f_X12_lastsOf_81  g k94 x1 x2 x3 x4 x6 S
  else
    k94 x1 x2 x3 x5 S
def lp_X12_lastsOf_43  (k94 : Int32 → Int32 → Int32 → Int32 → jS → Option (Int32 × jS)) (x1 : Int32) (x2 : Int32) (x3 : Int32) (x4 : Int32) (x5 : Int32) (x6 : Int32) (S : jS) : Option (Int32 × jS) := jloop (α := Int32 × Int32 × Int32 × Int32 × Int32 × Int32 × jS) (fun g q => f_X12_lastsOf_43  (fun x1 x2 x3 x4 x5 x6 S => g (x1, x2, x3, x4, x5, x6, S)) k94 q.1 q.2.1 q.2.2.1 q.2.2.2.1 q.2.2.2.2.1 q.2.2.2.2.2.1 q.2.2.2.2.2.2) jN (x1, x2, x3, x4, x5, x6, S)
def f_X12_lastsOf_107  (g : Int32 → Int32 → Int32 → jS → Option (Int32 × jS)) (k115 : Int32 → jS → Option (Int32 × jS)) (a0 : Int32) (a1 : Int32) (x1 : Int32) (x3 : Int32) (S : jS) : Option (Int32 × jS) :=
  f_X12_lastsOf_109  g k115 x1 (a1 ||| a0) x3 S
def f_X12_lastsOf_94  (g : Int32 → Int32 → Int32 → jS → Option (Int32 × jS)) (k115 : Int32 → jS → Option (Int32 × jS)) (x1 : Int32) (x2 : Int32) (x3 : Int32) (x5 : Int32) (S : jS) : Option (Int32 × jS) :=
  if x5 = 0 then
    f_X12_lastsOf_107  g k115 0 x2 x1 x3 S
  else
    f_X12_lastsOf_107  g k115 (1 <<< (x3 &&& 31)) x2 x1 x3 S
def f_X12_lastsOf_38  (g : Int32 → Int32 → Int32 → jS → Option (Int32 × jS)) (k115 : Int32 → jS → Option (Int32 × jS)) (a0 : Int32) (x1 : Int32) (x2 : Int32) (x3 : Int32) (x4 : Int32) (S : jS) : Option (Int32 × jS) :=
  lp_X12_lastsOf_43  (f_X12_lastsOf_94  g k115) x1 x2 x3 x4 a0 0 S
def f_X12_lastsOf_4  (g : Int32 → Int32 → Int32 → jS → Option (Int32 × jS)) (k115 : Int32 → jS → Option (Int32 × jS)) (x1 : Int32) (x2 : Int32) (x3 : Int32) (S : jS) : Option (Int32 × jS) :=
  if x3 < 8 then
    if ((x1 >>> (x3 &&& 31)) &&& 1) = 1 then
      if (x1 &&& ((1 <<< (x3 &&& 31)) ^^^ (-1))) = 0 then
        f_X12_lastsOf_38  g k115 1 x1 x2 x3 (x1 &&& ((1 <<< (x3 &&& 31)) ^^^ (-1))) S
      else
        f_X12_lastsOf_38  g k115 0 x1 x2 x3 (x1 &&& ((1 <<< (x3 &&& 31)) ^^^ (-1))) S
    else
      f_X12_lastsOf_109  g k115 x1 x2 x3 S
  else
    k115 x2 S
def lp_X12_lastsOf_4  (k115 : Int32 → jS → Option (Int32 × jS)) (x1 : Int32) (x2 : Int32) (x3 : Int32) (S : jS) : Option (Int32 × jS) := jloop (α := Int32 × Int32 × Int32 × jS) (fun g q => f_X12_lastsOf_4  (fun x1 x2 x3 S => g (x1, x2, x3, S)) k115 q.1 q.2.1 q.2.2.1 q.2.2.2) jN (x1, x2, x3, S)
def f_X12_lastsOf_115   (x2 : Int32) (S : jS) : Option (Int32 × jS) :=
  some (x2, S)
def f_X12_lastsOf_e   (x1 : Int32) (S : jS) : Option (Int32 × jS) :=
  lp_X12_lastsOf_4  (f_X12_lastsOf_115) x1 0 0 S
def f_X12_lastsOf (x1 : Int32) (S : jS) : Option (Int32 × jS) := f_X12_lastsOf_e x1 S
def f_X12_longest_71  (g : Int32 → Int32 → Int32 → jS → Option (Int32 × jS)) (k78 : Int32 → jS → Option (Int32 × jS)) (a0 : Int32) (x1 : Int32) (x3 : Int32) (S : jS) : Option (Int32 × jS) :=
  g x1 a0 (x3 + 1) S
def f_X12_longest_70  (g : Int32 → Int32 → Int32 → jS → Option (Int32 × jS)) (k78 : Int32 → jS → Option (Int32 × jS)) (x1 : Int32) (x2 : Int32) (x3 : Int32) (S : jS) : Option (Int32 × jS) :=
  f_X12_longest_71  g k78 x2 x1 x3 S
def f_X12_longest_45  (g : Int32 → Int32 → Int32 → jS → Option (Int32 × jS)) (k78 : Int32 → jS → Option (Int32 × jS)) (a0 : Int32) (a1 : Int32) (x1 : Int32) (x2 : Int32) (x3 : Int32) (S : jS) : Option (Int32 × jS) :=
  jst S 50 a1 256 a0 (fun S1 =>
  jld S1 50 x3 256 (fun v2 =>
  if v2 = 0 then
    f_X12_longest_70  g k78 x1 x2 x3 S1
  else
    jcl (f_X12_bits x3 S1) (fun v4 S3 =>
    if x2 < v4 then
      jcl (f_X12_bits x3 S3) (fun v6 S5 =>
      f_X12_longest_71  g k78 v6 x1 x3 S5)
    else
      f_X12_longest_70  g k78 x1 x2 x3 S3)))
def f_X12_longest_16  (g : Int32 → Int32 → Int32 → jS → Option (Int32 × jS)) (k78 : Int32 → jS → Option (Int32 × jS)) (x1 : Int32) (x2 : Int32) (x3 : Int32) (S : jS) : Option (Int32 × jS) :=
  if x3 < 256 then
    if (x3 &&& (x1 ^^^ (-1))) = 0 then
      jcl (f_X12_lastsOf x3 S) (fun v2 S1 =>
      f_X12_longest_45  g k78 v2 x3 x1 x2 x3 S1)
    else
      f_X12_longest_45  g k78 0 x3 x1 x2 x3 S
  else
    k78 x2 S
def lp_X12_longest_16  (k78 : Int32 → jS → Option (Int32 × jS)) (x1 : Int32) (x2 : Int32) (x3 : Int32) (S : jS) : Option (Int32 × jS) := jloop (α := Int32 × Int32 × Int32 × jS) (fun g q => f_X12_longest_16  (fun x1 x2 x3 S => g (x1, x2, x3, S)) k78 q.1 q.2.1 q.2.2.1 q.2.2.2) jN (x1, x2, x3, S)
def f_X12_longest_78   (x2 : Int32) (S : jS) : Option (Int32 × jS) :=
  some (x2, S)
def f_X12_longest_e    (S : jS) : Option (Int32 × jS) :=
  jcl (f_X12_lived  S) (fun v2 S1 =>
  jst S1 50 0 256 0 (fun S3 =>
  lp_X12_longest_16  (f_X12_longest_78) v2 0 1 S3))
def f_X12_longest  (S : jS) : Option (Int32 × jS) := f_X12_longest_e  S
def f_X4_settleApart_r22_55  (g : Int32 → Int32 → jS → Option (jS)) (k61 : Int32 → jS → Option (jS)) (x2 : Int32) (x3 : Int32) (S : jS) : Option (jS) :=
  g x2 (x3 + 1) S
def f_X4_settleApart_r22_18  (g : Int32 → Int32 → jS → Option (jS)) (k61 : Int32 → jS → Option (jS)) (x2 : Int32) (x3 : Int32) (S : jS) : Option (jS) :=
  if x3 < (S.1 12 6) then
    jld S 13 x2 8 (fun v1 =>
    jld S 13 x3 8 (fun v2 =>
    if v1 = v2 then
      jld S 15 x2 8 (fun v3 =>
      jst S 15 x2 8 (v3 &&& ((1 <<< (x3 &&& 31)) ^^^ (-1))) (fun S4 =>
      f_X4_settleApart_r22_55  g k61 x2 x3 S4))
    else
      f_X4_settleApart_r22_55  g k61 x2 x3 S))
  else
    k61 x2 S
def lp_X4_settleApart_r22_18  (k61 : Int32 → jS → Option (jS)) (x2 : Int32) (x3 : Int32) (S : jS) : Option (jS) := jloop (α := Int32 × Int32 × jS) (fun g q => f_X4_settleApart_r22_18  (fun x2 x3 S => g (x2, x3, S)) k61 q.1 q.2.1 q.2.2) jN (x2, x3, S)
def f_X4_settleApart_r22_61  (g : Int32 → jS → Option (jS)) (k67 : jS → Option (jS)) (x2 : Int32) (S : jS) : Option (jS) :=
  g (x2 + 1) S
def f_X4_settleApart_r22_8  (g : Int32 → jS → Option (jS)) (k67 : jS → Option (jS)) (x2 : Int32) (S : jS) : Option (jS) :=
  if x2 < (S.1 12 6) then
    lp_X4_settleApart_r22_18  (f_X4_settleApart_r22_61  g k67) x2 0 S
  else
    k67  S
def lp_X4_settleApart_r22_8  (k67 : jS → Option (jS)) (x2 : Int32) (S : jS) : Option (jS) := jloop (α := Int32 × jS) (fun g q => f_X4_settleApart_r22_8  (fun x2 S => g (x2, S)) k67 q.1 q.2) jN (x2, S)
def f_X4_settleApart_r22_67    (S : jS) : Option (jS) :=
  some S
def f_X4_settleApart_r22_e    (S : jS) : Option (jS) :=
  jcv (f_X4_settle_r22 0 S) (fun S1 =>
  lp_X4_settleApart_r22_8  (f_X4_settleApart_r22_67) 0 S1)
def f_X4_settleApart_r22  (S : jS) : Option (jS) := f_X4_settleApart_r22_e  S
def f_X4_endsOf_67  (g : Int32 → Int32 → Int32 → jS → Option (Int32 × jS)) (k73 : Int32 → jS → Option (Int32 × jS)) (x1 : Int32) (x2 : Int32) (x3 : Int32) (S : jS) : Option (Int32 × jS) :=
  g x1 x2 (x3 + 1) S
def f_X4_endsOf_61  (g : Int32 → Int32 → Int32 → jS → Option (Int32 × jS)) (k73 : Int32 → jS → Option (Int32 × jS)) (x1 : Int32) (x2 : Int32) (x3 : Int32) (S : jS) : Option (Int32 × jS) :=
  f_X4_endsOf_67  g k73 x1 (x2 ||| (1 <<< (x3 &&& 31))) x3 S
def f_X4_endsOf_32  (g : Int32 → Int32 → Int32 → jS → Option (Int32 × jS)) (k73 : Int32 → jS → Option (Int32 × jS)) (a0 : Int32) (x1 : Int32) (x2 : Int32) (x3 : Int32) (x4 : Int32) (S : jS) : Option (Int32 × jS) :=
  if a0 = 0 then
    f_X4_endsOf_67  g k73 x1 x2 x3 S
  else
    if x4 = 0 then
      f_X4_endsOf_61  g k73 x1 x2 x3 S
    else
      jld S 17 x4 256 (fun v1 =>
      jld S 15 x3 8 (fun v2 =>
      if (v1 &&& v2) = 0 then
        f_X4_endsOf_67  g k73 x1 x2 x3 S
      else
        f_X4_endsOf_61  g k73 x1 x2 x3 S))
def f_X4_endsOf_4  (g : Int32 → Int32 → Int32 → jS → Option (Int32 × jS)) (k73 : Int32 → jS → Option (Int32 × jS)) (x1 : Int32) (x2 : Int32) (x3 : Int32) (S : jS) : Option (Int32 × jS) :=
  if x3 < (S.1 12 6) then
    if (x1 &&& ((1 <<< (x3 &&& 31)) ^^^ (-1))) = x1 then
      f_X4_endsOf_32  g k73 0 x1 x2 x3 (x1 &&& ((1 <<< (x3 &&& 31)) ^^^ (-1))) S
    else
      f_X4_endsOf_32  g k73 1 x1 x2 x3 (x1 &&& ((1 <<< (x3 &&& 31)) ^^^ (-1))) S
  else
    k73 x2 S
def lp_X4_endsOf_4  (k73 : Int32 → jS → Option (Int32 × jS)) (x1 : Int32) (x2 : Int32) (x3 : Int32) (S : jS) : Option (Int32 × jS) := jloop (α := Int32 × Int32 × Int32 × jS) (fun g q => f_X4_endsOf_4  (fun x1 x2 x3 S => g (x1, x2, x3, S)) k73 q.1 q.2.1 q.2.2.1 q.2.2.2) jN (x1, x2, x3, S)
def f_X4_endsOf_73   (x2 : Int32) (S : jS) : Option (Int32 × jS) :=
  some (x2, S)
def f_X4_endsOf_e   (x1 : Int32) (S : jS) : Option (Int32 × jS) :=
  lp_X4_endsOf_4  (f_X4_endsOf_73) x1 0 0 S
def f_X4_endsOf (x1 : Int32) (S : jS) : Option (Int32 × jS) := f_X4_endsOf_e x1 S
def f_X4_longestRow_43  (g : Int32 → Int32 → jS → Option (Int32 × jS)) (k49 : Int32 → jS → Option (Int32 × jS)) (x1 : Int32) (x2 : Int32) (S : jS) : Option (Int32 × jS) :=
  g x1 (x2 + 1) S
def f_X4_longestRow_4  (g : Int32 → Int32 → jS → Option (Int32 × jS)) (k49 : Int32 → jS → Option (Int32 × jS)) (x1 : Int32) (x2 : Int32) (S : jS) : Option (Int32 × jS) :=
  if x2 < (1 <<< ((S.1 12 6) &&& 31)) then
    jcl (f_X4_endsOf x2 S) (fun v2 S1 =>
    jst S1 17 x2 256 v2 (fun S3 =>
    jld S3 17 x2 256 (fun v4 =>
    if v4 = 0 then
      f_X4_longestRow_43  g k49 x1 x2 S3
    else
      jcl (f_J6_bitCount_0f7a4 x2 S3) (fun v6 S5 =>
      f_X4_longestRow_43  g k49 (if x1 < v6 then v6 else x1) x2 S5))))
  else
    k49 x1 S
def lp_X4_longestRow_4  (k49 : Int32 → jS → Option (Int32 × jS)) (x1 : Int32) (x2 : Int32) (S : jS) : Option (Int32 × jS) := jloop (α := Int32 × Int32 × jS) (fun g q => f_X4_longestRow_4  (fun x1 x2 S => g (x1, x2, S)) k49 q.1 q.2.1 q.2.2) jN (x1, x2, S)
def f_X4_longestRow_49   (x1 : Int32) (S : jS) : Option (Int32 × jS) :=
  some (x1, S)
def f_X4_longestRow_e    (S : jS) : Option (Int32 × jS) :=
  lp_X4_longestRow_4  (f_X4_longestRow_49) 0 1 S
def f_X4_longestRow  (S : jS) : Option (Int32 × jS) := f_X4_longestRow_e  S
def f_X11_longest_e    (S : jS) : Option (Int32 × jS) :=
  jcv (f_X4_settleApart_r22  S) (fun S1 =>
  jcl (f_X4_longestRow  S1) (fun v3 S2 =>
  some (v3, S2)))
def f_X11_longest  (S : jS) : Option (Int32 × jS) := f_X11_longest_e  S
def f_X12_areAllApart_69  (g : Int32 → Int32 → Int32 → Int32 → jS → Option (Int32 × jS)) (k76 : Int32 → Int32 → Int32 → jS → Option (Int32 × jS)) (a0 : Int32) (x1 : Int32) (x3 : Int32) (x4 : Int32) (S : jS) : Option (Int32 × jS) :=
  g x1 a0 x3 (x4 + 1) S
def f_X12_areAllApart_68  (g : Int32 → Int32 → Int32 → Int32 → jS → Option (Int32 × jS)) (k76 : Int32 → Int32 → Int32 → jS → Option (Int32 × jS)) (x1 : Int32) (x3 : Int32) (x4 : Int32) (S : jS) : Option (Int32 × jS) :=
  f_X12_areAllApart_69  g k76 0 x1 x3 x4 S
def f_X12_areAllApart_64  (g : Int32 → Int32 → Int32 → Int32 → jS → Option (Int32 × jS)) (k76 : Int32 → Int32 → Int32 → jS → Option (Int32 × jS)) (x1 : Int32) (x3 : Int32) (x4 : Int32) (S : jS) : Option (Int32 × jS) :=
  f_X12_areAllApart_69  g k76 1 x1 x3 x4 S
def f_X12_areAllApart_43  (g : Int32 → Int32 → Int32 → Int32 → jS → Option (Int32 × jS)) (k76 : Int32 → Int32 → Int32 → jS → Option (Int32 × jS)) (a0 : Int32) (x1 : Int32) (x2 : Int32) (x3 : Int32) (x4 : Int32) (S : jS) : Option (Int32 × jS) :=
  if x2 = 0 then
    f_X12_areAllApart_68  g k76 x1 x3 x4 S
  else
    if a0 = 0 then
      f_X12_areAllApart_64  g k76 x1 x3 x4 S
    else
      jcl (f_X12_areApart x3 x4 S) (fun v2 S1 =>
      if v2 = 0 then
        f_X12_areAllApart_68  g k76 x1 x3 x4 S1
      else
        f_X12_areAllApart_64  g k76 x1 x3 x4 S1)
def f_X12_areAllApart_42  (g : Int32 → Int32 → Int32 → Int32 → jS → Option (Int32 × jS)) (k76 : Int32 → Int32 → Int32 → jS → Option (Int32 × jS)) (x1 : Int32) (x2 : Int32) (x3 : Int32) (x4 : Int32) (S : jS) : Option (Int32 × jS) :=
  f_X12_areAllApart_43  g k76 0 x1 x2 x3 x4 S
def f_X12_areAllApart_13  (g : Int32 → Int32 → Int32 → Int32 → jS → Option (Int32 × jS)) (k76 : Int32 → Int32 → Int32 → jS → Option (Int32 × jS)) (x1 : Int32) (x2 : Int32) (x3 : Int32) (x4 : Int32) (S : jS) : Option (Int32 × jS) :=
  if x4 < x3 then
    if ((x1 >>> (x3 &&& 31)) &&& 1) = 1 then
      if ((x1 >>> (x4 &&& 31)) &&& 1) = 1 then
        f_X12_areAllApart_43  g k76 1 x1 x2 x3 x4 S
      else
        f_X12_areAllApart_42  g k76 x1 x2 x3 x4 S
    else
      f_X12_areAllApart_42  g k76 x1 x2 x3 x4 S
  else
    k76 x1 x2 x3 S
def lp_X12_areAllApart_13  (k76 : Int32 → Int32 → Int32 → jS → Option (Int32 × jS)) (x1 : Int32) (x2 : Int32) (x3 : Int32) (x4 : Int32) (S : jS) : Option (Int32 × jS) := jloop (α := Int32 × Int32 × Int32 × Int32 × jS) (fun g q => f_X12_areAllApart_13  (fun x1 x2 x3 x4 S => g (x1, x2, x3, x4, S)) k76 q.1 q.2.1 q.2.2.1 q.2.2.2.1 q.2.2.2.2) jN (x1, x2, x3, x4, S)
def f_X12_areAllApart_76  (g : Int32 → Int32 → Int32 → jS → Option (Int32 × jS)) (k82 : Int32 → jS → Option (Int32 × jS)) (x1 : Int32) (x2 : Int32) (x3 : Int32) (S : jS) : Option (Int32 × jS) :=
  g x1 x2 (x3 + 1) S
def f_X12_areAllApart_4  (g : Int32 → Int32 → Int32 → jS → Option (Int32 × jS)) (k82 : Int32 → jS → Option (Int32 × jS)) (x1 : Int32) (x2 : Int32) (x3 : Int32) (S : jS) : Option (Int32 × jS) :=
  if x3 < 8 then
    lp_X12_areAllApart_13  (f_X12_areAllApart_76  g k82) x1 x2 x3 0 S
  else
    k82 x2 S
def lp_X12_areAllApart_4  (k82 : Int32 → jS → Option (Int32 × jS)) (x1 : Int32) (x2 : Int32) (x3 : Int32) (S : jS) : Option (Int32 × jS) := jloop (α := Int32 × Int32 × Int32 × jS) (fun g q => f_X12_areAllApart_4  (fun x1 x2 x3 S => g (x1, x2, x3, S)) k82 q.1 q.2.1 q.2.2.1 q.2.2.2) jN (x1, x2, x3, S)
def f_X12_areAllApart_82   (x2 : Int32) (S : jS) : Option (Int32 × jS) :=
  jzr x2 S
def f_X12_areAllApart_e   (x1 : Int32) (S : jS) : Option (Int32 × jS) :=
  lp_X12_areAllApart_4  (f_X12_areAllApart_82) x1 1 0 S
def f_X12_areAllApart (x1 : Int32) (S : jS) : Option (Int32 × jS) := f_X12_areAllApart_e x1 S
def f_X12_greatest_75  (g : Int32 → Int32 → Int32 → jS → Option (Int32 × jS)) (k82 : Int32 → Int32 → jS → Option (Int32 × jS)) (a0 : Int32) (x1 : Int32) (x3 : Int32) (S : jS) : Option (Int32 × jS) :=
  g x1 a0 (x3 + 1) S
def f_X12_greatest_74  (g : Int32 → Int32 → Int32 → jS → Option (Int32 × jS)) (k82 : Int32 → Int32 → jS → Option (Int32 × jS)) (x1 : Int32) (x2 : Int32) (x3 : Int32) (S : jS) : Option (Int32 × jS) :=
  f_X12_greatest_75  g k82 x2 x1 x3 S
def f_X12_greatest_55  (g : Int32 → Int32 → Int32 → jS → Option (Int32 × jS)) (k82 : Int32 → Int32 → jS → Option (Int32 × jS)) (a0 : Int32) (x1 : Int32) (x2 : Int32) (x3 : Int32) (S : jS) : Option (Int32 × jS) :=
  if a0 = 0 then
    f_X12_greatest_74  g k82 x1 x2 x3 S
  else
    jcl (f_X12_areAllApart x3 S) (fun v2 S1 =>
    if v2 = 0 then
      f_X12_greatest_74  g k82 x1 x2 x3 S1
    else
      f_X12_greatest_75  g k82 x3 x1 x3 S1)
def f_X12_greatest_54  (g : Int32 → Int32 → Int32 → jS → Option (Int32 × jS)) (k82 : Int32 → Int32 → jS → Option (Int32 × jS)) (x1 : Int32) (x2 : Int32) (x3 : Int32) (S : jS) : Option (Int32 × jS) :=
  f_X12_greatest_55  g k82 0 x1 x2 x3 S
def f_X12_greatest_21  (g : Int32 → Int32 → Int32 → jS → Option (Int32 × jS)) (k82 : Int32 → Int32 → jS → Option (Int32 × jS)) (x1 : Int32) (x2 : Int32) (x3 : Int32) (S : jS) : Option (Int32 × jS) :=
  if x3 < 256 then
    jcl (f_X12_bits x3 S) (fun v2 S1 =>
    jcl (f_X12_bits x2 S1) (fun v4 S3 =>
    if v4 < v2 then
      jcl (f_X12_lived  S3) (fun v6 S5 =>
      if (x3 &&& (v6 ^^^ (-1))) = 0 then
        f_X12_greatest_55  g k82 1 x1 x2 x3 S5
      else
        f_X12_greatest_54  g k82 x1 x2 x3 S5)
    else
      f_X12_greatest_54  g k82 x1 x2 x3 S3))
  else
    k82 x1 x2 S
def lp_X12_greatest_21  (k82 : Int32 → Int32 → jS → Option (Int32 × jS)) (x1 : Int32) (x2 : Int32) (x3 : Int32) (S : jS) : Option (Int32 × jS) := jloop (α := Int32 × Int32 × Int32 × jS) (fun g q => f_X12_greatest_21  (fun x1 x2 x3 S => g (x1, x2, x3, S)) k82 q.1 q.2.1 q.2.2.1 q.2.2.2) jN (x1, x2, x3, S)
def f_X12_greatest_94   (a0 : Int32) (S : jS) : Option (Int32 × jS) :=
  some (a0, S)
def f_X12_greatest_82   (x1 : Int32) (x2 : Int32) (S : jS) : Option (Int32 × jS) :=
  if x1 = 0 then
    jcl (f_X12_bits x2 S) (fun v2 S1 =>
    f_X12_greatest_94   v2 S1)
  else
    f_X12_greatest_94   x2 S
def f_X12_greatest_e   (x1 : Int32) (S : jS) : Option (Int32 × jS) :=
  jcl (f_X12_in x1.toInt64 0 1 S) (fun v2 S1 =>
  if v2 = 0 then
    jcl (f_X12_bad (-2) S1) (fun v4 S3 =>
    some (v4, S3))
  else
    lp_X12_greatest_21  (f_X12_greatest_82) x1 0 0 S1)
def f_X12_greatest (x1 : Int32) (S : jS) : Option (Int32 × jS) := f_X12_greatest_e x1 S
def f_X4_isApart_38  (g : Int32 → Int32 → jS → Option (Int32 × jS)) (k36 : jS → Option (Int32 × jS)) (k44 : jS → Option (Int32 × jS)) (x1 : Int32) (x2 : Int32) (S : jS) : Option (Int32 × jS) :=
  g x1 (x2 + 1) S
def f_X4_isApart_2  (g : Int32 → Int32 → jS → Option (Int32 × jS)) (k36 : jS → Option (Int32 × jS)) (k44 : jS → Option (Int32 × jS)) (x1 : Int32) (x2 : Int32) (S : jS) : Option (Int32 × jS) :=
  if x2 < (S.1 12 6) then
    if (x1 &&& ((1 <<< (x2 &&& 31)) ^^^ (-1))) = x1 then
      f_X4_isApart_38  g k36 k44 x1 x2 S
    else
      jld S 15 x2 8 (fun v1 =>
      if ((x1 &&& ((1 <<< (x2 &&& 31)) ^^^ (-1))) &&& (v1 ^^^ (-1))) = 0 then
        f_X4_isApart_38  g k36 k44 x1 x2 S
      else
        k36  S)
  else
    k44  S
def lp_X4_isApart_2  (k36 : jS → Option (Int32 × jS)) (k44 : jS → Option (Int32 × jS)) (x1 : Int32) (x2 : Int32) (S : jS) : Option (Int32 × jS) := jloop (α := Int32 × Int32 × jS) (fun g q => f_X4_isApart_2  (fun x1 x2 S => g (x1, x2, S)) k36 k44 q.1 q.2.1 q.2.2) jN (x1, x2, S)
def f_X4_isApart_36    (S : jS) : Option (Int32 × jS) :=
  jzr 0 S
def f_X4_isApart_44    (S : jS) : Option (Int32 × jS) :=
  jzr 1 S
def f_X4_isApart_e   (x1 : Int32) (S : jS) : Option (Int32 × jS) :=
  lp_X4_isApart_2  (f_X4_isApart_36) (f_X4_isApart_44) x1 0 S
def f_X4_isApart (x1 : Int32) (S : jS) : Option (Int32 × jS) := f_X4_isApart_e x1 S
def f_X4_housesOf_4  (g : Int32 → Int32 → Int32 → jS → Option (Int32 × jS)) (k33 : Int32 → jS → Option (Int32 × jS)) (x1 : Int32) (x2 : Int32) (x3 : Int32) (S : jS) : Option (Int32 × jS) :=
  if x3 < (S.1 12 6) then
    jld S 14 x3 8 (fun v1 =>
    g x1 (x2 ||| (((x1 >>> (x3 &&& 31)) &&& 1) <<< (v1 &&& 31))) (x3 + 1) S)
  else
    k33 x2 S
def lp_X4_housesOf_4  (k33 : Int32 → jS → Option (Int32 × jS)) (x1 : Int32) (x2 : Int32) (x3 : Int32) (S : jS) : Option (Int32 × jS) := jloop (α := Int32 × Int32 × Int32 × jS) (fun g q => f_X4_housesOf_4  (fun x1 x2 x3 S => g (x1, x2, x3, S)) k33 q.1 q.2.1 q.2.2.1 q.2.2.2) jN (x1, x2, x3, S)
def f_X4_housesOf_33   (x2 : Int32) (S : jS) : Option (Int32 × jS) :=
  some (x2, S)
def f_X4_housesOf_e   (x1 : Int32) (S : jS) : Option (Int32 × jS) :=
  lp_X4_housesOf_4  (f_X4_housesOf_33) x1 0 0 S
def f_X4_housesOf (x1 : Int32) (S : jS) : Option (Int32 × jS) := f_X4_housesOf_e x1 S
def f_X4_greatestSet_35  (g : Int32 → Int32 → jS → Option (Int32 × jS)) (k41 : Int32 → jS → Option (Int32 × jS)) (x1 : Int32) (x2 : Int32) (S : jS) : Option (Int32 × jS) :=
  g x1 (x2 + 1) S
def f_X4_greatestSet_4  (g : Int32 → Int32 → jS → Option (Int32 × jS)) (k41 : Int32 → jS → Option (Int32 × jS)) (x1 : Int32) (x2 : Int32) (S : jS) : Option (Int32 × jS) :=
  if x2 < (1 <<< ((S.1 12 6) &&& 31)) then
    jcl (f_J6_bitCount_0f7a4 x2 S) (fun v2 S1 =>
    jcl (f_J6_bitCount_0f7a4 x1 S1) (fun v4 S3 =>
    if v4 < v2 then
      jcl (f_X4_isApart x2 S3) (fun v6 S5 =>
      if v6 = 0 then
        f_X4_greatestSet_35  g k41 x1 x2 S5
      else
        f_X4_greatestSet_35  g k41 x2 x2 S5)
    else
      f_X4_greatestSet_35  g k41 x1 x2 S3))
  else
    k41 x1 S
def lp_X4_greatestSet_4  (k41 : Int32 → jS → Option (Int32 × jS)) (x1 : Int32) (x2 : Int32) (S : jS) : Option (Int32 × jS) := jloop (α := Int32 × Int32 × jS) (fun g q => f_X4_greatestSet_4  (fun x1 x2 S => g (x1, x2, S)) k41 q.1 q.2.1 q.2.2) jN (x1, x2, S)
def f_X4_greatestSet_41   (x1 : Int32) (S : jS) : Option (Int32 × jS) :=
  jcl (f_X4_housesOf x1 S) (fun v2 S1 =>
  some (v2, S1))
def f_X4_greatestSet_e    (S : jS) : Option (Int32 × jS) :=
  lp_X4_greatestSet_4  (f_X4_greatestSet_41) 0 1 S
def f_X4_greatestSet  (S : jS) : Option (Int32 × jS) := f_X4_greatestSet_e  S
def f_X11_greatest_46   (a0 : Int32) (S : jS) : Option (Int32 × jS) :=
  some (a0, S)
def f_X11_greatest_e   (x1 : Int32) (S : jS) : Option (Int32 × jS) :=
  jcl (f_X11_isBit x1 S) (fun v2 S1 =>
  if v2 = 0 then
    jcl (f_X11_refuseBad  S1) (fun v9 S8 =>
    some (v9, S8))
  else
    jcv (f_X4_settleApart_r22  S1) (fun S3 =>
    jcl (f_X4_greatestSet  S3) (fun v5 S4 =>
    if x1 = 0 then
      jcl (f_J6_bitCount_0f7a4 v5 S4) (fun v7 S6 =>
      f_X11_greatest_46   v7 S6)
    else
      f_X11_greatest_46   v5 S4)))
def f_X11_greatest (x1 : Int32) (S : jS) : Option (Int32 × jS) := f_X11_greatest_e x1 S
def f_X12_partsOf_21  (g : Int32 → Int32 → Int32 → jS → Option (Int32 × jS)) (k29 : Int32 → jS → Option (Int32 × jS)) (a0 : Int32) (a1 : Int32) (x0 : Int32) (x2 : Int32) (S : jS) : Option (Int32 × jS) :=
  g x0 (a1 + a0) (x2 + 1) S
def f_X12_partsOf_4  (g : Int32 → Int32 → Int32 → jS → Option (Int32 × jS)) (k29 : Int32 → jS → Option (Int32 × jS)) (x0 : Int32) (x1 : Int32) (x2 : Int32) (S : jS) : Option (Int32 × jS) :=
  if x2 < x0 then
    jrm x0 x2 (fun v1 =>
    if v1 = 0 then
      f_X12_partsOf_21  g k29 x2 x1 x0 x2 S
    else
      f_X12_partsOf_21  g k29 0 x1 x0 x2 S)
  else
    k29 x1 S
def lp_X12_partsOf_4  (k29 : Int32 → jS → Option (Int32 × jS)) (x0 : Int32) (x1 : Int32) (x2 : Int32) (S : jS) : Option (Int32 × jS) := jloop (α := Int32 × Int32 × Int32 × jS) (fun g q => f_X12_partsOf_4  (fun x0 x1 x2 S => g (x0, x1, x2, S)) k29 q.1 q.2.1 q.2.2.1 q.2.2.2) jN (x0, x1, x2, S)
def f_X12_partsOf_29   (x1 : Int32) (S : jS) : Option (Int32 × jS) :=
  some (x1, S)
def f_X12_partsOf_e   (x0 : Int32) (S : jS) : Option (Int32 × jS) :=
  lp_X12_partsOf_4  (f_X12_partsOf_29) x0 0 1 S
def f_X12_partsOf (x0 : Int32) (S : jS) : Option (Int32 × jS) := f_X12_partsOf_e x0 S
def f_X12_chain_19    (S : jS) : Option (Int32 × jS) :=
  jcl (f_X12_bad (-2) S) (fun v2 S1 =>
  some (v2, S1))
def f_X12_chain_122  (g : Int32 → Int32 → Int32 → Int32 → Int32 → Int32 → jS → Option (Int32 × jS)) (k130 : Int32 → Int32 → Int32 → Int32 → jS → Option (Int32 × jS)) (a0 : Int32) (x1 : Int32) (x2 : Int32) (x3 : Int32) (x5 : Int32) (x6 : Int32) (S : jS) : Option (Int32 × jS) :=
  g x1 x2 x3 a0 x5 (x6 + 1) S
def f_X12_chain_117  (g : Int32 → Int32 → Int32 → Int32 → Int32 → Int32 → jS → Option (Int32 × jS)) (k130 : Int32 → Int32 → Int32 → Int32 → jS → Option (Int32 × jS)) (x1 : Int32) (x2 : Int32) (x3 : Int32) (x5 : Int32) (x6 : Int32) (S : jS) : Option (Int32 × jS) :=
  f_X12_chain_122  g k130 1 x1 x2 x3 x5 x6 S
def f_X12_chain_94  (g : Int32 → Int32 → Int32 → Int32 → Int32 → Int32 → jS → Option (Int32 × jS)) (k130 : Int32 → Int32 → Int32 → Int32 → jS → Option (Int32 × jS)) (x1 : Int32) (x2 : Int32) (x3 : Int32) (x4 : Int32) (x5 : Int32) (x6 : Int32) (S : jS) : Option (Int32 × jS) :=
  if x6 < x3 then
    if x4 = 0 then
      jld S 51 x6 21 (fun v1 =>
      if v1 = x5 then
        f_X12_chain_117  g k130 x1 x2 x3 x5 x6 S
      else
        f_X12_chain_122  g k130 0 x1 x2 x3 x5 x6 S)
    else
      f_X12_chain_117  g k130 x1 x2 x3 x5 x6 S
  else
    k130 x1 x2 x3 x4 S
def lp_X12_chain_94  (k130 : Int32 → Int32 → Int32 → Int32 → jS → Option (Int32 × jS)) (x1 : Int32) (x2 : Int32) (x3 : Int32) (x4 : Int32) (x5 : Int32) (x6 : Int32) (S : jS) : Option (Int32 × jS) := jloop (α := Int32 × Int32 × Int32 × Int32 × Int32 × Int32 × jS) (fun g q => f_X12_chain_94  (fun x1 x2 x3 x4 x5 x6 S => g (x1, x2, x3, x4, x5, x6, S)) k130 q.1 q.2.1 q.2.2.1 q.2.2.2.1 q.2.2.2.2.1 q.2.2.2.2.2.1 q.2.2.2.2.2.2) jN (x1, x2, x3, x4, x5, x6, S)
def f_X12_chain_130  (g : Int32 → Int32 → Int32 → Int32 → jS → Option (Int32 × jS)) (k133 : Int32 → Int32 → Int32 → jS → Option (Int32 × jS)) (x1 : Int32) (x2 : Int32) (x3 : Int32) (x4 : Int32) (S : jS) : Option (Int32 × jS) :=
  g x1 x2 x3 x4 S
def f_X12_chain_89  (g : Int32 → Int32 → Int32 → Int32 → jS → Option (Int32 × jS)) (k133 : Int32 → Int32 → Int32 → jS → Option (Int32 × jS)) (a0 : Int32) (x1 : Int32) (x2 : Int32) (x3 : Int32) (x5 : Int32) (S : jS) : Option (Int32 × jS) :=
  lp_X12_chain_94  (f_X12_chain_130  g k133) x1 x2 x3 a0 x5 0 S
def f_X12_chain_84  (g : Int32 → Int32 → Int32 → Int32 → jS → Option (Int32 × jS)) (k133 : Int32 → Int32 → Int32 → jS → Option (Int32 × jS)) (x1 : Int32) (x2 : Int32) (x3 : Int32) (x5 : Int32) (S : jS) : Option (Int32 × jS) :=
  f_X12_chain_89  g k133 1 x1 x2 x3 x5 S
def f_X12_chain_38  (g : Int32 → Int32 → Int32 → Int32 → jS → Option (Int32 × jS)) (k133 : Int32 → Int32 → Int32 → jS → Option (Int32 × jS)) (x1 : Int32) (x2 : Int32) (x3 : Int32) (x4 : Int32) (S : jS) : Option (Int32 × jS) :=
  if x3 < 20 then
    if x4 = 0 then
      jld S 51 x3 21 (fun v1 =>
      jcl (f_X12_partsOf v1 S) (fun v3 S2 =>
      jst S2 51 (x3 + 1) 21 v3 (fun S4 =>
      if v3 = 0 then
        f_X12_chain_84  g k133 x1 x2 (x3 + 1) v3 S4
      else
        if 9999 < v3 then
          f_X12_chain_84  g k133 x1 x2 (x3 + 1) v3 S4
        else
          f_X12_chain_89  g k133 0 x1 x2 (x3 + 1) v3 S4)))
    else
      k133 x1 x2 x3 S
  else
    k133 x1 x2 x3 S
def lp_X12_chain_38  (k133 : Int32 → Int32 → Int32 → jS → Option (Int32 × jS)) (x1 : Int32) (x2 : Int32) (x3 : Int32) (x4 : Int32) (S : jS) : Option (Int32 × jS) := jloop (α := Int32 × Int32 × Int32 × Int32 × jS) (fun g q => f_X12_chain_38  (fun x1 x2 x3 x4 S => g (x1, x2, x3, x4, S)) k133 q.1 q.2.1 q.2.2.1 q.2.2.2.1 q.2.2.2.2) jN (x1, x2, x3, x4, S)
def f_X12_chain_170   (a0 : Int32) (S : jS) : Option (Int32 × jS) :=
  some (a0, S)
def f_X12_chain_133   (x1 : Int32) (x2 : Int32) (x3 : Int32) (S : jS) : Option (Int32 × jS) :=
  if x2 = 0 then
    f_X12_chain_170   x3 S
  else
    if x2 = 1 then
      jld S 51 x3 21 (fun v2 =>
      f_X12_chain_170   v2 S)
    else
      jld S 46 x1 301 (fun v1 =>
      if v1 = x1 then
        f_X12_chain_170   1 S
      else
        f_X12_chain_170   0 S)
def f_X12_chain_e   (x1 : Int32) (x2 : Int32) (S : jS) : Option (Int32 × jS) :=
  jcl (f_X12_isNumber x1 S) (fun v2 S1 =>
  if v2 = 0 then
    f_X12_chain_19    S1
  else
    jcl (f_X12_in x2.toInt64 0 2 S1) (fun v4 S3 =>
    if v4 = 0 then
      f_X12_chain_19    S3
    else
      jst S3 51 0 21 x1 (fun S5 =>
      lp_X12_chain_38  (f_X12_chain_133) x1 x2 0 0 S5)))
def f_X12_chain (x1 : Int32) (x2 : Int32) (S : jS) : Option (Int32 × jS) := f_X12_chain_e x1 x2 S
def f_X11_isLink_2  (g : Int32 → Int32 → jS → Option (Int32 × jS)) (k29 : jS → Option (Int32 × jS)) (k37 : jS → Option (Int32 × jS)) (x1 : Int32) (x2 : Int32) (S : jS) : Option (Int32 × jS) :=
  if x2 < (S.1 0 10) then
    if x2 < 21 then
      jld S 40 x2 21 (fun v1 =>
      if v1 = x1 then
        k29  S
      else
        g x1 (x2 + 1) S)
    else
      k37  S
  else
    k37  S
def lp_X11_isLink_2  (k29 : jS → Option (Int32 × jS)) (k37 : jS → Option (Int32 × jS)) (x1 : Int32) (x2 : Int32) (S : jS) : Option (Int32 × jS) := jloop (α := Int32 × Int32 × jS) (fun g q => f_X11_isLink_2  (fun x1 x2 S => g (x1, x2, S)) k29 k37 q.1 q.2.1 q.2.2) jN (x1, x2, S)
def f_X11_isLink_29    (S : jS) : Option (Int32 × jS) :=
  jzr 1 S
def f_X11_isLink_37    (S : jS) : Option (Int32 × jS) :=
  jzr 0 S
def f_X11_isLink_e   (x1 : Int32) (S : jS) : Option (Int32 × jS) :=
  lp_X11_isLink_2  (f_X11_isLink_29) (f_X11_isLink_37) x1 0 S
def f_X11_isLink (x1 : Int32) (S : jS) : Option (Int32 × jS) := f_X11_isLink_e x1 S
def f_X11_followChain_63  (g : Int32 → Int32 → Int32 → jS → Option (Int32 × jS)) (k86 : Int32 → jS → Option (Int32 × jS)) (a0 : Int32) (x2 : Int32) (x4 : Int32) (S : jS) : Option (Int32 × jS) :=
  jst S 40 x4 21 x2 (fun S1 =>
  jpt S1 0 10 (x4 + 1) (fun S2 =>
  g x2 a0 (x4 + 1) S2))
def f_X11_followChain_58  (g : Int32 → Int32 → Int32 → jS → Option (Int32 × jS)) (k86 : Int32 → jS → Option (Int32 × jS)) (x2 : Int32) (x4 : Int32) (S : jS) : Option (Int32 × jS) :=
  f_X11_followChain_63  g k86 1 x2 x4 S
def f_X11_followChain_19  (g : Int32 → Int32 → Int32 → jS → Option (Int32 × jS)) (k86 : Int32 → jS → Option (Int32 × jS)) (x2 : Int32) (x3 : Int32) (x4 : Int32) (S : jS) : Option (Int32 × jS) :=
  if 20 < x4 then
    k86 x2 S
  else
    if x3 = 0 then
      jcl (f_X3_partsOf x2 S) (fun v2 S1 =>
      if v2 = 0 then
        f_X11_followChain_58  g k86 v2 x4 S1
      else
        if 9999 < v2 then
          f_X11_followChain_58  g k86 v2 x4 S1
        else
          jcl (f_X11_isLink v2 S1) (fun v4 S3 =>
          if v4 = 0 then
            f_X11_followChain_63  g k86 0 v2 x4 S3
          else
            f_X11_followChain_58  g k86 v2 x4 S3))
    else
      k86 x2 S
def lp_X11_followChain_19  (k86 : Int32 → jS → Option (Int32 × jS)) (x2 : Int32) (x3 : Int32) (x4 : Int32) (S : jS) : Option (Int32 × jS) := jloop (α := Int32 × Int32 × Int32 × jS) (fun g q => f_X11_followChain_19  (fun x2 x3 x4 S => g (x2, x3, x4, S)) k86 q.1 q.2.1 q.2.2.1 q.2.2.2) jN (x2, x3, x4, S)
def f_X11_followChain_86   (x2 : Int32) (S : jS) : Option (Int32 × jS) :=
  some (x2, S)
def f_X11_followChain_e   (x1 : Int32) (S : jS) : Option (Int32 × jS) :=
  jst S 40 0 21 x1 (fun S1 =>
  jpt S1 0 10 1 (fun S2 =>
  lp_X11_followChain_19  (f_X11_followChain_86) x1 0 1 S2))
def f_X11_followChain (x1 : Int32) (S : jS) : Option (Int32 × jS) := f_X11_followChain_e x1 S
def f_X11_chain_16    (S : jS) : Option (Int32 × jS) :=
  jcl (f_X11_refuseBad  S) (fun v2 S1 =>
  some (v2, S1))
def f_X11_chain_67   (a0 : Int32) (S : jS) : Option (Int32 × jS) :=
  some (a0, S)
def f_X11_chain_43   (a0 : Int32) (S : jS) : Option (Int32 × jS) :=
  jcl (f_X11_bit a0 S) (fun v2 S1 =>
  some (v2, S1))
def f_X11_chain_e   (x1 : Int32) (x2 : Int32) (S : jS) : Option (Int32 × jS) :=
  jcl (f_X11_isNumber x1 S) (fun v2 S1 =>
  if v2 = 0 then
    f_X11_chain_16    S1
  else
    if x2 < 0 then
      f_X11_chain_16    S1
    else
      if 2 < x2 then
        f_X11_chain_16    S1
      else
        if x2 = 2 then
          jcl (f_X3_partsOf x1 S1) (fun v6 S5 =>
          if v6 = x1 then
            f_X11_chain_43   1 S5
          else
            f_X11_chain_43   0 S5)
        else
          jcl (f_X11_followChain x1 S1) (fun v4 S3 =>
          if x2 = 0 then
            f_X11_chain_67   ((S3.1 0 10) - 1) S3
          else
            f_X11_chain_67   v4 S3))
def f_X11_chain (x1 : Int32) (x2 : Int32) (S : jS) : Option (Int32 × jS) := f_X11_chain_e x1 x2 S
def f_X12_daysTill_35   (a0 : Int32) (S : jS) : Option (Int32 × jS) :=
  some (a0, S)
def f_X12_daysTill_e   (x1 : Int32) (x2 : Int32) (S : jS) : Option (Int32 × jS) :=
  if x1 < x2 then
    jld S 42 x1 149 (fun v1 =>
    jld S 42 x1 149 (fun v2 =>
    jrm (x2 - x1) v2 (fun v3 =>
    jld S 42 x1 149 (fun v4 =>
    jrm (v1 - v3) v4 (fun v5 =>
    f_X12_daysTill_35   v5 S)))))
  else
    f_X12_daysTill_35   (x1 - x2) S
def f_X12_daysTill (x1 : Int32) (x2 : Int32) (S : jS) : Option (Int32 × jS) := f_X12_daysTill_e x1 x2 S
def f_X12_meet_78  (g : Int32 → Int32 → Int32 → Int32 → jS → Option (Int32 × jS)) (k85 : Int32 → Int32 → Int32 → jS → Option (Int32 × jS)) (a0 : Int32) (x1 : Int32) (x2 : Int32) (x4 : Int32) (S : jS) : Option (Int32 × jS) :=
  g x1 x2 a0 (x4 + 1) S
def f_X12_meet_65  (g : Int32 → Int32 → Int32 → Int32 → jS → Option (Int32 × jS)) (k85 : Int32 → Int32 → Int32 → jS → Option (Int32 × jS)) (a0 : Int32) (x1 : Int32) (x3 : Int32) (x4 : Int32) (x5 : Int32) (S : jS) : Option (Int32 × jS) :=
  if x3 < x5 then
    f_X12_meet_78  g k85 x5 x1 a0 x4 S
  else
    f_X12_meet_78  g k85 x3 x1 a0 x4 S
def f_X12_meet_64  (g : Int32 → Int32 → Int32 → Int32 → jS → Option (Int32 × jS)) (k85 : Int32 → Int32 → Int32 → jS → Option (Int32 × jS)) (x1 : Int32) (x3 : Int32) (x4 : Int32) (x5 : Int32) (S : jS) : Option (Int32 × jS) :=
  f_X12_meet_65  g k85 0 x1 x3 x4 x5 S
def f_X12_meet_49  (g : Int32 → Int32 → Int32 → Int32 → jS → Option (Int32 × jS)) (k85 : Int32 → Int32 → Int32 → jS → Option (Int32 × jS)) (a0 : Int32) (x1 : Int32) (x2 : Int32) (x3 : Int32) (x4 : Int32) (S : jS) : Option (Int32 × jS) :=
  if x2 = 0 then
    f_X12_meet_64  g k85 x1 x3 x4 a0 S
  else
    if a0 = 0 then
      f_X12_meet_65  g k85 1 x1 x3 x4 a0 S
    else
      f_X12_meet_64  g k85 x1 x3 x4 a0 S
def f_X12_meet_21  (g : Int32 → Int32 → Int32 → Int32 → jS → Option (Int32 × jS)) (k85 : Int32 → Int32 → Int32 → jS → Option (Int32 × jS)) (x1 : Int32) (x2 : Int32) (x3 : Int32) (x4 : Int32) (S : jS) : Option (Int32 × jS) :=
  if x4 < 8 then
    jld S 42 x4 149 (fun v1 =>
    if 0 < v1 then
      jcl (f_X12_daysTill x4 x1 S) (fun v3 S2 =>
      f_X12_meet_49  g k85 v3 x1 x2 x3 x4 S2)
    else
      f_X12_meet_49  g k85 0 x1 x2 x3 x4 S)
  else
    k85 x1 x2 x3 S
def lp_X12_meet_21  (k85 : Int32 → Int32 → Int32 → jS → Option (Int32 × jS)) (x1 : Int32) (x2 : Int32) (x3 : Int32) (x4 : Int32) (S : jS) : Option (Int32 × jS) := jloop (α := Int32 × Int32 × Int32 × Int32 × jS) (fun g q => f_X12_meet_21  (fun x1 x2 x3 x4 S => g (x1, x2, x3, x4, S)) k85 q.1 q.2.1 q.2.2.1 q.2.2.2.1 q.2.2.2.2) jN (x1, x2, x3, x4, S)
def f_X12_meet_85  (g : Int32 → Int32 → jS → Option (Int32 × jS)) (k92 : Int32 → Int32 → jS → Option (Int32 × jS)) (x1 : Int32) (x2 : Int32) (x3 : Int32) (S : jS) : Option (Int32 × jS) :=
  g (x1 + x3) x2 S
def f_X12_meet_4  (g : Int32 → Int32 → jS → Option (Int32 × jS)) (k92 : Int32 → Int32 → jS → Option (Int32 × jS)) (x1 : Int32) (x2 : Int32) (S : jS) : Option (Int32 × jS) :=
  if x1 < 100000 then
    if x2 = 0 then
      lp_X12_meet_21  (f_X12_meet_85  g k92) x1 1 0 0 S
    else
      k92 x1 x2 S
  else
    k92 x1 x2 S
def lp_X12_meet_4  (k92 : Int32 → Int32 → jS → Option (Int32 × jS)) (x1 : Int32) (x2 : Int32) (S : jS) : Option (Int32 × jS) := jloop (α := Int32 × Int32 × jS) (fun g q => f_X12_meet_4  (fun x1 x2 S => g (x1, x2, S)) k92 q.1 q.2.1 q.2.2) jN (x1, x2, S)
def f_X12_meet_107   (a0 : Int32) (S : jS) : Option (Int32 × jS) :=
  some (a0, S)
def f_X12_meet_106    (S : jS) : Option (Int32 × jS) :=
  f_X12_meet_107   (-1) S
def f_X12_meet_92   (x1 : Int32) (x2 : Int32) (S : jS) : Option (Int32 × jS) :=
  if x2 = 0 then
    f_X12_meet_106    S
  else
    if x1 < 100000 then
      f_X12_meet_107   x1 S
    else
      f_X12_meet_106    S
def f_X12_meet_e    (S : jS) : Option (Int32 × jS) :=
  lp_X12_meet_4  (f_X12_meet_92) 0 0 S
def f_X12_meet  (S : jS) : Option (Int32 × jS) := f_X12_meet_e  S
def f_X11_isThere_22   (a0 : Int32) (S : jS) : Option (Int32 × jS) :=
  jzr a0 S
def f_X11_isThere_21    (S : jS) : Option (Int32 × jS) :=
  f_X11_isThere_22   0 S
def f_X11_isThere_e   (x0 : Int32) (x1 : Int32) (x2 : Int32) (S : jS) : Option (Int32 × jS) :=
  if x0 < x1 then
    f_X11_isThere_21    S
  else
    if 0 < x2 then
      jrm (x0 - x1) x2 (fun v1 =>
      if v1 = 0 then
        f_X11_isThere_22   1 S
      else
        f_X11_isThere_21    S)
    else
      f_X11_isThere_21    S
def f_X11_isThere (x0 : Int32) (x1 : Int32) (x2 : Int32) (S : jS) : Option (Int32 × jS) := f_X11_isThere_e x0 x1 x2 S
def f_X11_firstShared_6  (g : Int32 → Int32 → Int32 → Int32 → Int32 → jS → Option (Int32 × jS)) (k42 : Int32 → jS → Option (Int32 × jS)) (x1 : Int32) (x2 : Int32) (x3 : Int32) (x4 : Int32) (x5 : Int32) (S : jS) : Option (Int32 × jS) :=
  if 99999 < x5 then
    k42 x4 S
  else
    if 99999 < x4 then
      k42 x4 S
    else
      jcl (f_X11_isThere x4 x2 x3 S) (fun v2 S1 =>
      if v2 = 0 then
        g x1 x2 x3 (x4 + x1) (x5 + 1) S1
      else
        k42 x4 S1)
def lp_X11_firstShared_6  (k42 : Int32 → jS → Option (Int32 × jS)) (x1 : Int32) (x2 : Int32) (x3 : Int32) (x4 : Int32) (x5 : Int32) (S : jS) : Option (Int32 × jS) := jloop (α := Int32 × Int32 × Int32 × Int32 × Int32 × jS) (fun g q => f_X11_firstShared_6  (fun x1 x2 x3 x4 x5 S => g (x1, x2, x3, x4, x5, S)) k42 q.1 q.2.1 q.2.2.1 q.2.2.2.1 q.2.2.2.2.1 q.2.2.2.2.2) jN (x1, x2, x3, x4, x5, S)
def f_X11_firstShared_42   (x4 : Int32) (S : jS) : Option (Int32 × jS) :=
  some (x4, S)
def f_X11_firstShared_e   (x0 : Int32) (x1 : Int32) (x2 : Int32) (x3 : Int32) (S : jS) : Option (Int32 × jS) :=
  lp_X11_firstShared_6  (f_X11_firstShared_42) x1 x2 x3 x0 0 S
def f_X11_firstShared (x0 : Int32) (x1 : Int32) (x2 : Int32) (x3 : Int32) (S : jS) : Option (Int32 × jS) := f_X11_firstShared_e x0 x1 x2 x3 S
def f_X11_commonDivisor_9  (g : Int64 → Int64 → Int32 → jS → Option (Int64 × jS)) (k44 : Int64 → jS → Option (Int64 × jS)) (x4 : Int64) (x6 : Int64) (x8 : Int32) (S : jS) : Option (Int64 × jS) :=
  if x8 < 100 then
    if (lg_cmp x6 0) = 0 then
      k44 x4 S
    else
      jrl x4 x6 (fun v1 =>
      g x6 v1 (x8 + 1) S)
  else
    k44 x4 S
def lp_X11_commonDivisor_9  (k44 : Int64 → jS → Option (Int64 × jS)) (x4 : Int64) (x6 : Int64) (x8 : Int32) (S : jS) : Option (Int64 × jS) := jloop (α := Int64 × Int64 × Int32 × jS) (fun g q => f_X11_commonDivisor_9  (fun x4 x6 x8 S => g (x4, x6, x8, S)) k44 q.1 q.2.1 q.2.2.1 q.2.2.2) jN (x4, x6, x8, S)
def f_X11_commonDivisor_44   (x4 : Int64) (S : jS) : Option (Int64 × jS) :=
  some (x4, S)
def f_X11_commonDivisor_e   (x0 : Int64) (x2 : Int64) (S : jS) : Option (Int64 × jS) :=
  lp_X11_commonDivisor_9  (f_X11_commonDivisor_44) x0 x2 0 S
def f_X11_commonDivisor (x0 : Int64) (x2 : Int64) (S : jS) : Option (Int64 × jS) := f_X11_commonDivisor_e x0 x2 S
def f_X11_sharedStep_e   (x0 : Int32) (x1 : Int32) (S : jS) : Option (Int32 × jS) :=
  jcl (f_X11_commonDivisor x0.toInt64 x1.toInt64 S) (fun v2 S1 =>
  if (lg_cmp v2 1) < 0 then
    some (x0, S1)
  else
    jdl x0.toInt64 v2 (fun v3 =>
    some (((if 100000 < (v3 * x1.toInt64) then 100000 else (v3 * x1.toInt64)) : Int64).toInt32, S1)))
def f_X11_sharedStep (x0 : Int32) (x1 : Int32) (S : jS) : Option (Int32 × jS) := f_X11_sharedStep_e x0 x1 S
def f_X11_meet_44  (g : Int32 → Int32 → Int32 → jS → Option (Int32 × jS)) (k50 : Int32 → jS → Option (Int32 × jS)) (x1 : Int32) (x2 : Int32) (x3 : Int32) (S : jS) : Option (Int32 × jS) :=
  g x1 x2 (x3 + 1) S
def f_X11_meet_6  (g : Int32 → Int32 → Int32 → jS → Option (Int32 × jS)) (k50 : Int32 → jS → Option (Int32 × jS)) (x1 : Int32) (x2 : Int32) (x3 : Int32) (S : jS) : Option (Int32 × jS) :=
  if x3 < 8 then
    jld S 22 x3 8 (fun v1 =>
    if 0 < v1 then
      jcl (f_X11_firstShared x1 x2 x3 v1 S) (fun v3 S2 =>
      jcl (f_X11_sharedStep x2 v1 S2) (fun v5 S4 =>
      f_X11_meet_44  g k50 v3 v5 x3 S4))
    else
      f_X11_meet_44  g k50 x1 x2 x3 S)
  else
    k50 x1 S
def lp_X11_meet_6  (k50 : Int32 → jS → Option (Int32 × jS)) (x1 : Int32) (x2 : Int32) (x3 : Int32) (S : jS) : Option (Int32 × jS) := jloop (α := Int32 × Int32 × Int32 × jS) (fun g q => f_X11_meet_6  (fun x1 x2 x3 S => g (x1, x2, x3, S)) k50 q.1 q.2.1 q.2.2.1 q.2.2.2) jN (x1, x2, x3, S)
def f_X11_meet_61   (a0 : Int32) (S : jS) : Option (Int32 × jS) :=
  some (a0, S)
def f_X11_meet_50   (x1 : Int32) (S : jS) : Option (Int32 × jS) :=
  if 99999 < x1 then
    f_X11_meet_61   (-1) S
  else
    f_X11_meet_61   x1 S
def f_X11_meet_e    (S : jS) : Option (Int32 × jS) :=
  lp_X11_meet_6  (f_X11_meet_50) 0 1 0 S
def f_X11_meet  (S : jS) : Option (Int32 × jS) := f_X11_meet_e  S
def f_X12_next_64  (g : Int32 → Int32 → Int32 → jS → Option (Int32 × jS)) (k70 : Int32 → jS → Option (Int32 × jS)) (x1 : Int32) (x2 : Int32) (x3 : Int32) (S : jS) : Option (Int32 × jS) :=
  g x1 x2 (x3 + 1) S
def f_X12_next_63  (g : Int32 → Int32 → Int32 → jS → Option (Int32 × jS)) (k70 : Int32 → jS → Option (Int32 × jS)) (a0 : Int32) (x1 : Int32) (x3 : Int32) (S : jS) : Option (Int32 × jS) :=
  f_X12_next_64  g k70 x1 a0 x3 S
def f_X12_next_57  (g : Int32 → Int32 → Int32 → jS → Option (Int32 × jS)) (k70 : Int32 → jS → Option (Int32 × jS)) (x1 : Int32) (x3 : Int32) (x4 : Int32) (S : jS) : Option (Int32 × jS) :=
  f_X12_next_63  g k70 x4 x1 x3 S
def f_X12_next_23  (g : Int32 → Int32 → Int32 → jS → Option (Int32 × jS)) (k70 : Int32 → jS → Option (Int32 × jS)) (x1 : Int32) (x2 : Int32) (x3 : Int32) (S : jS) : Option (Int32 × jS) :=
  if x3 < 8 then
    jld S 42 x3 149 (fun v1 =>
    if 0 < v1 then
      jcl (f_X12_daysTill x3 x1 S) (fun v3 S2 =>
      if x2 = (-1) then
        f_X12_next_57  g k70 x1 x3 v3 S2
      else
        if v3 < x2 then
          f_X12_next_57  g k70 x1 x3 v3 S2
        else
          f_X12_next_63  g k70 x2 x1 x3 S2)
    else
      f_X12_next_64  g k70 x1 x2 x3 S)
  else
    k70 x2 S
def lp_X12_next_23  (k70 : Int32 → jS → Option (Int32 × jS)) (x1 : Int32) (x2 : Int32) (x3 : Int32) (S : jS) : Option (Int32 × jS) := jloop (α := Int32 × Int32 × Int32 × jS) (fun g q => f_X12_next_23  (fun x1 x2 x3 S => g (x1, x2, x3, S)) k70 q.1 q.2.1 q.2.2.1 q.2.2.2) jN (x1, x2, x3, S)
def f_X12_next_70   (x2 : Int32) (S : jS) : Option (Int32 × jS) :=
  some (x2, S)
def f_X12_next_e   (x1 : Int32) (S : jS) : Option (Int32 × jS) :=
  jcl (f_X12_in x1.toInt64 0 99999 S) (fun v2 S1 =>
  if v2 = 0 then
    jcl (f_X12_bad (-2) S1) (fun v4 S3 =>
    some (v4, S3))
  else
    lp_X12_next_23  (f_X12_next_70) x1 (-1) 0 S1)
def f_X12_next (x1 : Int32) (S : jS) : Option (Int32 × jS) := f_X12_next_e x1 S
def f_X11_waitFrom_10   (x0 : Int32) (x1 : Int32) (S : jS) : Option (Int32 × jS) :=
  some ((x1 - x0), S)
def f_X11_waitFrom_31   (a0 : Int32) (S : jS) : Option (Int32 × jS) :=
  some (a0, S)
def f_X11_waitFrom_e   (x0 : Int32) (x1 : Int32) (x2 : Int32) (S : jS) : Option (Int32 × jS) :=
  if x1 < x0 then
    if x2 < 1 then
      f_X11_waitFrom_10   x0 x1 S
    else
      jrm (x0 - x1) x2 (fun v1 =>
      if v1 = 0 then
        f_X11_waitFrom_31   0 S
      else
        f_X11_waitFrom_31   (x2 - v1) S)
  else
    f_X11_waitFrom_10   x0 x1 S
def f_X11_waitFrom (x0 : Int32) (x1 : Int32) (x2 : Int32) (S : jS) : Option (Int32 × jS) := f_X11_waitFrom_e x0 x1 x2 S
def f_X11_next_10    (S : jS) : Option (Int32 × jS) :=
  jcl (f_X11_refuseBad  S) (fun v2 S1 =>
  some (v2, S1))
def f_X11_next_67  (g : Int32 → Int32 → Int32 → jS → Option (Int32 × jS)) (k73 : Int32 → jS → Option (Int32 × jS)) (x1 : Int32) (x2 : Int32) (x3 : Int32) (S : jS) : Option (Int32 × jS) :=
  g x1 x2 (x3 + 1) S
def f_X11_next_66  (g : Int32 → Int32 → Int32 → jS → Option (Int32 × jS)) (k73 : Int32 → jS → Option (Int32 × jS)) (a0 : Int32) (x1 : Int32) (x3 : Int32) (S : jS) : Option (Int32 × jS) :=
  f_X11_next_67  g k73 x1 a0 x3 S
def f_X11_next_19  (g : Int32 → Int32 → Int32 → jS → Option (Int32 × jS)) (k73 : Int32 → jS → Option (Int32 × jS)) (x1 : Int32) (x2 : Int32) (x3 : Int32) (S : jS) : Option (Int32 × jS) :=
  if x3 < 8 then
    jld S 22 x3 8 (fun v1 =>
    if 0 < v1 then
      jcl (f_X11_waitFrom x1 x3 v1 S) (fun v3 S2 =>
      if x2 = (-1) then
        f_X11_next_66  g k73 v3 x1 x3 S2
      else
        f_X11_next_66  g k73 (if v3 < x2 then v3 else x2) x1 x3 S2)
    else
      f_X11_next_67  g k73 x1 x2 x3 S)
  else
    k73 x2 S
def lp_X11_next_19  (k73 : Int32 → jS → Option (Int32 × jS)) (x1 : Int32) (x2 : Int32) (x3 : Int32) (S : jS) : Option (Int32 × jS) := jloop (α := Int32 × Int32 × Int32 × jS) (fun g q => f_X11_next_19  (fun x1 x2 x3 S => g (x1, x2, x3, S)) k73 q.1 q.2.1 q.2.2.1 q.2.2.2) jN (x1, x2, x3, S)
def f_X11_next_73   (x2 : Int32) (S : jS) : Option (Int32 × jS) :=
  some (x2, S)
def f_X11_next_e   (x1 : Int32) (S : jS) : Option (Int32 × jS) :=
  if x1 < 0 then
    f_X11_next_10    S
  else
    if 99999 < x1 then
      f_X11_next_10    S
    else
      lp_X11_next_19  (f_X11_next_73) x1 (-1) 0 S
def f_X11_next (x1 : Int32) (S : jS) : Option (Int32 × jS) := f_X11_next_e x1 S
def f_X12_reading_17    (S : jS) : Option (Int32 × jS) :=
  jcl (f_X12_bad (-2) S) (fun v2 S1 =>
  some (v2, S1))
def f_X12_reading_e   (x1 : Int32) (x2 : Int32) (S : jS) : Option (Int32 × jS) :=
  jcl (f_X12_isNumber x1 S) (fun v2 S1 =>
  if v2 = 0 then
    f_X12_reading_17    S1
  else
    jcl (f_X12_in x2.toInt64 0 1 S1) (fun v4 S3 =>
    if v4 = 0 then
      f_X12_reading_17    S3
    else
      jld S3 42 10 149 (fun v5 =>
      if v5 = 8 then
        jcl (f_X12_full  S3) (fun v17 S16 =>
        some (v17, S16))
      else
        jld S3 42 10 149 (fun v6 =>
        jst S3 42 (13 + (4 * v6)) 149 x1 (fun S7 =>
        jst S7 42 ((13 + (4 * v6)) + 1) 149 x2 (fun S8 =>
        jld S8 42 8 149 (fun v9 =>
        jst S8 42 ((13 + (4 * v6)) + 2) 149 v9 (fun S10 =>
        jld S10 42 9 149 (fun v11 =>
        jst S10 42 ((13 + (4 * v6)) + 3) 149 v11 (fun S12 =>
        jld S12 42 10 149 (fun v13 =>
        jst S12 42 10 149 (v13 + 1) (fun S14 =>
        jld S14 42 10 149 (fun v15 =>
        some (v15, S14))))))))))))))
def f_X12_reading (x1 : Int32) (x2 : Int32) (S : jS) : Option (Int32 × jS) := f_X12_reading_e x1 x2 S
def f_X10_addThree_r23_39    (S : jS) : Option (jS) :=
  some S
def f_X10_addThree_r23_e   (x1 : Int32) (x2 : Int32) (x3 : Int32) (x4 : Int32) (S : jS) : Option (jS) :=
  if (3 * x1) < 0 then
    f_X10_addThree_r23_39    S
  else
    if ((3 * x1) + 2) < 24 then
      jst S 23 (3 * x1) 24 x2 (fun S1 =>
      jst S1 23 ((3 * x1) + 1) 24 x3 (fun S2 =>
      jst S2 23 ((3 * x1) + 2) 24 x4 (fun S3 =>
      f_X10_addThree_r23_39    S3)))
    else
      f_X10_addThree_r23_39    S
def f_X10_addThree_r23 (x1 : Int32) (x2 : Int32) (x3 : Int32) (x4 : Int32) (S : jS) : Option (jS) := f_X10_addThree_r23_e x1 x2 x3 x4 S
def f_X10_addReading_e   (x1 : Int32) (x2 : Int32) (S : jS) : Option (jS) :=
  jcv (f_X10_addThree_r23 (S.1 21 3) x1 x2 (S.1 21 1) S) (fun S1 =>
  jpt S1 21 3 ((S1.1 21 3) + 1) (fun S2 =>
  some S2))
def f_X10_addReading (x1 : Int32) (x2 : Int32) (S : jS) : Option (jS) := f_X10_addReading_e x1 x2 S
def f_X11_reading_14    (S : jS) : Option (Int32 × jS) :=
  jcl (f_X11_refuseBad  S) (fun v2 S1 =>
  some (v2, S1))
def f_X11_reading_e   (x1 : Int32) (x2 : Int32) (S : jS) : Option (Int32 × jS) :=
  jcl (f_X11_isNumber x1 S) (fun v2 S1 =>
  if v2 = 0 then
    f_X11_reading_14    S1
  else
    jcl (f_X11_isBit x2 S1) (fun v4 S3 =>
    if v4 = 0 then
      f_X11_reading_14    S3
    else
      if (S3.1 21 3) < 8 then
        jcv (f_X10_addReading x1 x2 S3) (fun S5 =>
        some ((S5.1 21 3), S5))
      else
        jcl (f_X11_refuseFull  S3) (fun v7 S6 =>
        some (v7, S6))))
def f_X11_reading (x1 : Int32) (x2 : Int32) (S : jS) : Option (Int32 × jS) := f_X11_reading_e x1 x2 S
def f_X12_canBe_83  (g : Int32 → Int32 → Int32 → jS → Option (Int32 × jS)) (k90 : Int32 → jS → Option (Int32 × jS)) (a0 : Int32) (x1 : Int32) (x3 : Int32) (S : jS) : Option (Int32 × jS) :=
  g x1 a0 (x3 + 1) S
def f_X12_canBe_75  (g : Int32 → Int32 → Int32 → jS → Option (Int32 × jS)) (k90 : Int32 → jS → Option (Int32 × jS)) (a0 : Int32) (a1 : Int32) (x1 : Int32) (x3 : Int32) (S : jS) : Option (Int32 × jS) :=
  if a1 = a0 then
    f_X12_canBe_83  g k90 1 x1 x3 S
  else
    f_X12_canBe_83  g k90 0 x1 x3 S
def f_X12_canBe_4  (g : Int32 → Int32 → Int32 → jS → Option (Int32 × jS)) (k90 : Int32 → jS → Option (Int32 × jS)) (x1 : Int32) (x2 : Int32) (x3 : Int32) (S : jS) : Option (Int32 × jS) :=
  jld S 42 10 149 (fun v1 =>
  if x3 < v1 then
    if x2 = 0 then
      k90 x2 S
    else
      jld S 42 ((13 + (4 * x3)) + 2) 149 (fun v2 =>
      jld S 42 ((13 + (4 * x3)) + 3) 149 (fun v3 =>
      jld S 42 (13 + (4 * x3)) 149 (fun v4 =>
      jcl (f_X12_mayBy v2 v3 x1 v4 S) (fun v6 S5 =>
      jld S5 42 ((13 + (4 * x3)) + 1) 149 (fun v7 =>
      if v7 = 1 then
        f_X12_canBe_75  g k90 1 v6 x1 x3 S5
      else
        f_X12_canBe_75  g k90 0 v6 x1 x3 S5)))))
  else
    k90 x2 S)
def lp_X12_canBe_4  (k90 : Int32 → jS → Option (Int32 × jS)) (x1 : Int32) (x2 : Int32) (x3 : Int32) (S : jS) : Option (Int32 × jS) := jloop (α := Int32 × Int32 × Int32 × jS) (fun g q => f_X12_canBe_4  (fun x1 x2 x3 S => g (x1, x2, x3, S)) k90 q.1 q.2.1 q.2.2.1 q.2.2.2) jN (x1, x2, x3, S)
def f_X12_canBe_90   (x2 : Int32) (S : jS) : Option (Int32 × jS) :=
  jzr x2 S
def f_X12_canBe_e   (x1 : Int32) (S : jS) : Option (Int32 × jS) :=
  lp_X12_canBe_4  (f_X12_canBe_90) x1 1 0 S
def f_X12_canBe (x1 : Int32) (S : jS) : Option (Int32 × jS) := f_X12_canBe_e x1 S
def f_X12_layCan_77  (g : Int32 → jS → Option (jS)) (k87 : jS → Option (jS)) (a0 : Int32) (a1 : Int32) (x1 : Int32) (S : jS) : Option (jS) :=
  jpt S 41 15 (a1 + a0) (fun S1 =>
  g (x1 + 1) S1)
def f_X12_layCan_55  (g : Int32 → jS → Option (jS)) (k87 : jS → Option (jS)) (a0 : Int32) (x1 : Int32) (S : jS) : Option (jS) :=
  jpt S 41 16 a0 (fun S1 =>
  jld S1 52 x1 301 (fun v2 =>
  if v2 = 0 then
    f_X12_layCan_77  g k87 0 (S1.1 41 15) x1 S1
  else
    f_X12_layCan_77  g k87 1 (S1.1 41 15) x1 S1))
def f_X12_layCan_51  (g : Int32 → jS → Option (jS)) (k87 : jS → Option (jS)) (x1 : Int32) (S : jS) : Option (jS) :=
  f_X12_layCan_55  g k87 (S.1 41 16) x1 S
def f_X12_layCan_12  (g : Int32 → jS → Option (jS)) (k87 : jS → Option (jS)) (x1 : Int32) (S : jS) : Option (jS) :=
  if 300 < x1 then
    k87  S
  else
    jcl (f_X12_canBe x1 S) (fun v2 S1 =>
    jst S1 52 x1 301 (vp_nar .boolean v2) (fun S3 =>
    jld S3 52 x1 301 (fun v4 =>
    if v4 = 0 then
      f_X12_layCan_51  g k87 x1 S3
    else
      if (S3.1 41 15) = 0 then
        f_X12_layCan_55  g k87 x1 x1 S3
      else
        f_X12_layCan_51  g k87 x1 S3)))
def lp_X12_layCan_12  (k87 : jS → Option (jS)) (x1 : Int32) (S : jS) : Option (jS) := jloop (α := Int32 × jS) (fun g q => f_X12_layCan_12  (fun x1 S => g (x1, S)) k87 q.1 q.2) jN (x1, S)
def f_X12_layCan_87    (S : jS) : Option (jS) :=
  some S
def f_X12_layCan_e    (S : jS) : Option (jS) :=
  jpt S 41 15 0 (fun S1 =>
  jpt S1 41 16 (-1) (fun S2 =>
  lp_X12_layCan_12  (f_X12_layCan_87) 1 S2))
def f_X12_layCan  (S : jS) : Option (jS) := f_X12_layCan_e  S
def f_X12_who_36   (a0 : Int32) (S : jS) : Option (Int32 × jS) :=
  some (a0, S)
def f_X12_who_e   (x1 : Int32) (S : jS) : Option (Int32 × jS) :=
  jcl (f_X12_in x1.toInt64 0 1 S) (fun v2 S1 =>
  if v2 = 0 then
    jcl (f_X12_bad (-10) S1) (fun v5 S4 =>
    some (v5, S4))
  else
    jcv (f_X12_layCan  S1) (fun S3 =>
    if x1 = 0 then
      f_X12_who_36   (S3.1 41 15) S3
    else
      f_X12_who_36   (S3.1 41 16) S3))
def f_X12_who (x1 : Int32) (S : jS) : Option (Int32 × jS) := f_X12_who_e x1 S
def f_X11_agreesWithReadings_2  (g : Int32 → Int32 → jS → Option (Int32 × jS)) (k72 : jS → Option (Int32 × jS)) (k80 : jS → Option (Int32 × jS)) (x1 : Int32) (x2 : Int32) (S : jS) : Option (Int32 × jS) :=
  if x2 < (S.1 21 3) then
    if x2 < 8 then
      jld S 23 ((3 * x2) + 2) 24 (fun v1 =>
      jld S 23 (3 * x2) 24 (fun v2 =>
      jcl (f_X2_allows v1 x1 v2 S) (fun v4 S3 =>
      jcl (f_X11_bit v4 S3) (fun v6 S5 =>
      jld S5 23 ((3 * x2) + 1) 24 (fun v7 =>
      if v6 = v7 then
        g x1 (x2 + 1) S5
      else
        k72  S5)))))
    else
      k80  S
  else
    k80  S
def lp_X11_agreesWithReadings_2  (k72 : jS → Option (Int32 × jS)) (k80 : jS → Option (Int32 × jS)) (x1 : Int32) (x2 : Int32) (S : jS) : Option (Int32 × jS) := jloop (α := Int32 × Int32 × jS) (fun g q => f_X11_agreesWithReadings_2  (fun x1 x2 S => g (x1, x2, S)) k72 k80 q.1 q.2.1 q.2.2) jN (x1, x2, S)
def f_X11_agreesWithReadings_72    (S : jS) : Option (Int32 × jS) :=
  jzr 0 S
def f_X11_agreesWithReadings_80    (S : jS) : Option (Int32 × jS) :=
  jzr 1 S
def f_X11_agreesWithReadings_e   (x1 : Int32) (S : jS) : Option (Int32 × jS) :=
  lp_X11_agreesWithReadings_2  (f_X11_agreesWithReadings_72) (f_X11_agreesWithReadings_80) x1 0 S
def f_X11_agreesWithReadings (x1 : Int32) (S : jS) : Option (Int32 × jS) := f_X11_agreesWithReadings_e x1 S
def f_X11_gatherFits_38  (g : Int32 → Int32 → jS → Option (Int32 × jS)) (k44 : Int32 → jS → Option (Int32 × jS)) (x1 : Int32) (x2 : Int32) (S : jS) : Option (Int32 × jS) :=
  g x1 (x2 + 1) S
def f_X11_gatherFits_4  (g : Int32 → Int32 → jS → Option (Int32 × jS)) (k44 : Int32 → jS → Option (Int32 × jS)) (x1 : Int32) (x2 : Int32) (S : jS) : Option (Int32 × jS) :=
  if 300 < x2 then
    k44 x1 S
  else
    jcl (f_X11_agreesWithReadings x2 S) (fun v2 S1 =>
    if v2 = 0 then
      f_X11_gatherFits_38  g k44 x1 x2 S1
    else
      if x1 < 300 then
        jst S1 39 x1 300 x2 (fun S3 =>
        f_X11_gatherFits_38  g k44 (x1 + 1) x2 S3)
      else
        f_X11_gatherFits_38  g k44 x1 x2 S1)
def lp_X11_gatherFits_4  (k44 : Int32 → jS → Option (Int32 × jS)) (x1 : Int32) (x2 : Int32) (S : jS) : Option (Int32 × jS) := jloop (α := Int32 × Int32 × jS) (fun g q => f_X11_gatherFits_4  (fun x1 x2 S => g (x1, x2, S)) k44 q.1 q.2.1 q.2.2) jN (x1, x2, S)
def f_X11_gatherFits_44   (x1 : Int32) (S : jS) : Option (Int32 × jS) :=
  some (x1, S)
def f_X11_gatherFits_e    (S : jS) : Option (Int32 × jS) :=
  lp_X11_gatherFits_4  (f_X11_gatherFits_44) 0 1 S
def f_X11_gatherFits  (S : jS) : Option (Int32 × jS) := f_X11_gatherFits_e  S
def f_X11_who_37   (a0 : Int32) (S : jS) : Option (Int32 × jS) :=
  some (a0, S)
def f_X11_who_e   (x1 : Int32) (S : jS) : Option (Int32 × jS) :=
  jcl (f_X11_isBit x1 S) (fun v2 S1 =>
  if v2 = 0 then
    jcl (f_X11_refuseBadApart  S1) (fun v7 S6 =>
    some (v7, S6))
  else
    jcl (f_X11_gatherFits  S1) (fun v4 S3 =>
    if x1 = 0 then
      some (v4, S3)
    else
      if v4 = 0 then
        f_X11_who_37   (-1) S3
      else
        jld S3 39 0 300 (fun v5 =>
        f_X11_who_37   v5 S3)))
def f_X11_who (x1 : Int32) (S : jS) : Option (Int32 × jS) := f_X11_who_e x1 S
def f_X12_greaterPart_35  (g : Int32 → Int32 → Int32 → jS → Option (Int32 × jS)) (k43 : Int32 → jS → Option (Int32 × jS)) (a0 : Int32) (a1 : Int32) (x1 : Int32) (x3 : Int32) (S : jS) : Option (Int32 × jS) :=
  g x1 (a1 + a0) (x3 + 1) S
def f_X12_greaterPart_34  (g : Int32 → Int32 → Int32 → jS → Option (Int32 × jS)) (k43 : Int32 → jS → Option (Int32 × jS)) (a0 : Int32) (x1 : Int32) (x3 : Int32) (S : jS) : Option (Int32 × jS) :=
  f_X12_greaterPart_35  g k43 0 a0 x1 x3 S
def f_X12_greaterPart_4  (g : Int32 → Int32 → Int32 → jS → Option (Int32 × jS)) (k43 : Int32 → jS → Option (Int32 × jS)) (x1 : Int32) (x2 : Int32) (x3 : Int32) (S : jS) : Option (Int32 × jS) :=
  if 300 < x3 then
    k43 x2 S
  else
    jld S 52 x3 301 (fun v1 =>
    if v1 = 0 then
      f_X12_greaterPart_34  g k43 x2 x1 x3 S
    else
      jcl (f_X12_mayNow x3 x1 S) (fun v3 S2 =>
      if v3 = 0 then
        f_X12_greaterPart_34  g k43 x2 x1 x3 S2
      else
        f_X12_greaterPart_35  g k43 1 x2 x1 x3 S2))
def lp_X12_greaterPart_4  (k43 : Int32 → jS → Option (Int32 × jS)) (x1 : Int32) (x2 : Int32) (x3 : Int32) (S : jS) : Option (Int32 × jS) := jloop (α := Int32 × Int32 × Int32 × jS) (fun g q => f_X12_greaterPart_4  (fun x1 x2 x3 S => g (x1, x2, x3, S)) k43 q.1 q.2.1 q.2.2.1 q.2.2.2) jN (x1, x2, x3, S)
def f_X12_greaterPart_63   (a0 : Int32) (S : jS) : Option (Int32 × jS) :=
  some (a0, S)
def f_X12_greaterPart_43   (x2 : Int32) (S : jS) : Option (Int32 × jS) :=
  if (S.1 41 15) < (2 * x2) then
    f_X12_greaterPart_63   x2 S
  else
    f_X12_greaterPart_63   ((S.1 41 15) - x2) S
def f_X12_greaterPart_e   (x1 : Int32) (S : jS) : Option (Int32 × jS) :=
  lp_X12_greaterPart_4  (f_X12_greaterPart_43) x1 0 1 S
def f_X12_greaterPart (x1 : Int32) (S : jS) : Option (Int32 × jS) := f_X12_greaterPart_e x1 S
def f_X12_tryNext_56  (g : Int32 → Int32 → Int32 → jS → Option (Int32 × jS)) (k63 : Int32 → jS → Option (Int32 × jS)) (a0 : Int32) (x1 : Int32) (x3 : Int32) (S : jS) : Option (Int32 × jS) :=
  g x1 a0 (x3 + 1) S
def f_X12_tryNext_43  (g : Int32 → Int32 → Int32 → jS → Option (Int32 × jS)) (k63 : Int32 → jS → Option (Int32 × jS)) (a0 : Int32) (x2 : Int32) (x3 : Int32) (x4 : Int32) (S : jS) : Option (Int32 × jS) :=
  if x4 < x2 then
    f_X12_tryNext_56  g k63 x4 a0 x3 S
  else
    f_X12_tryNext_56  g k63 x2 a0 x3 S
def f_X12_tryNext_11  (g : Int32 → Int32 → Int32 → jS → Option (Int32 × jS)) (k63 : Int32 → jS → Option (Int32 × jS)) (x1 : Int32) (x2 : Int32) (x3 : Int32) (S : jS) : Option (Int32 × jS) :=
  if 300 < x3 then
    k63 x1 S
  else
    if 0 < (S.1 41 15) then
      jcl (f_X12_greaterPart x3 S) (fun v2 S1 =>
      if v2 < x2 then
        f_X12_tryNext_43  g k63 x3 x2 x3 v2 S1
      else
        f_X12_tryNext_43  g k63 x1 x2 x3 v2 S1)
    else
      k63 x1 S
def lp_X12_tryNext_11  (k63 : Int32 → jS → Option (Int32 × jS)) (x1 : Int32) (x2 : Int32) (x3 : Int32) (S : jS) : Option (Int32 × jS) := jloop (α := Int32 × Int32 × Int32 × jS) (fun g q => f_X12_tryNext_11  (fun x1 x2 x3 S => g (x1, x2, x3, S)) k63 q.1 q.2.1 q.2.2.1 q.2.2.2) jN (x1, x2, x3, S)
def f_X12_tryNext_63   (x1 : Int32) (S : jS) : Option (Int32 × jS) :=
  some (x1, S)
def f_X12_tryNext_e    (S : jS) : Option (Int32 × jS) :=
  jcv (f_X12_layCan  S) (fun S1 =>
  lp_X12_tryNext_11  (f_X12_tryNext_63) (-1) 1000000 1 S1)
def f_X12_tryNext  (S : jS) : Option (Int32 × jS) := f_X12_tryNext_e  S
def f_X11_greaterPart_71  (g : Int32 → Int32 → Int32 → Int32 → Int32 → Int32 → jS → Option (Int32 × jS)) (k77 : Int32 → Int32 → jS → Option (Int32 × jS)) (x1 : Int32) (x2 : Int32) (x3 : Int32) (x4 : Int32) (x5 : Int32) (x6 : Int32) (S : jS) : Option (Int32 × jS) :=
  g x1 x2 x3 x4 x5 (x6 + 1) S
def f_X11_greaterPart_9  (g : Int32 → Int32 → Int32 → Int32 → Int32 → Int32 → jS → Option (Int32 × jS)) (k77 : Int32 → Int32 → jS → Option (Int32 × jS)) (x1 : Int32) (x2 : Int32) (x3 : Int32) (x4 : Int32) (x5 : Int32) (x6 : Int32) (S : jS) : Option (Int32 × jS) :=
  if x6 < x2 then
    if x6 < 300 then
      if x4 < x3 then
        if x5 < x3 then
          jld S 39 x6 300 (fun v1 =>
          jcl (f_X2_allows (S.1 21 1) x1 v1 S) (fun v3 S2 =>
          if v3 = 0 then
            f_X11_greaterPart_71  g k77 x1 x2 x3 x4 (x5 + 1) x6 S2
          else
            f_X11_greaterPart_71  g k77 x1 x2 x3 (x4 + 1) x5 x6 S2))
        else
          k77 x4 x5 S
      else
        k77 x4 x5 S
    else
      k77 x4 x5 S
  else
    k77 x4 x5 S
def lp_X11_greaterPart_9  (k77 : Int32 → Int32 → jS → Option (Int32 × jS)) (x1 : Int32) (x2 : Int32) (x3 : Int32) (x4 : Int32) (x5 : Int32) (x6 : Int32) (S : jS) : Option (Int32 × jS) := jloop (α := Int32 × Int32 × Int32 × Int32 × Int32 × Int32 × jS) (fun g q => f_X11_greaterPart_9  (fun x1 x2 x3 x4 x5 x6 S => g (x1, x2, x3, x4, x5, x6, S)) k77 q.1 q.2.1 q.2.2.1 q.2.2.2.1 q.2.2.2.2.1 q.2.2.2.2.2.1 q.2.2.2.2.2.2) jN (x1, x2, x3, x4, x5, x6, S)
def f_X11_greaterPart_77   (x4 : Int32) (x5 : Int32) (S : jS) : Option (Int32 × jS) :=
  some ((if x4 < x5 then x5 else x4), S)
def f_X11_greaterPart_e   (x1 : Int32) (x2 : Int32) (x3 : Int32) (S : jS) : Option (Int32 × jS) :=
  lp_X11_greaterPart_9  (f_X11_greaterPart_77) x1 x2 x3 0 0 0 S
def f_X11_greaterPart (x1 : Int32) (x2 : Int32) (x3 : Int32) (S : jS) : Option (Int32 × jS) := f_X11_greaterPart_e x1 x2 x3 S
def f_X11_tryNext_48  (g : Int32 → Int32 → Int32 → Int32 → jS → Option (Int32 × jS)) (k54 : Int32 → jS → Option (Int32 × jS)) (x1 : Int32) (x2 : Int32) (x3 : Int32) (x4 : Int32) (S : jS) : Option (Int32 × jS) :=
  g x1 x2 x3 (x4 + 1) S
def f_X11_tryNext_14  (g : Int32 → Int32 → Int32 → Int32 → jS → Option (Int32 × jS)) (k54 : Int32 → jS → Option (Int32 × jS)) (x1 : Int32) (x2 : Int32) (x3 : Int32) (x4 : Int32) (S : jS) : Option (Int32 × jS) :=
  if 300 < x4 then
    k54 x2 S
  else
    if 0 < x1 then
      jcl (f_X11_greaterPart x4 x1 x3 S) (fun v2 S1 =>
      if v2 < x3 then
        f_X11_tryNext_48  g k54 x1 x4 v2 x4 S1
      else
        f_X11_tryNext_48  g k54 x1 x2 x3 x4 S1)
    else
      k54 x2 S
def lp_X11_tryNext_14  (k54 : Int32 → jS → Option (Int32 × jS)) (x1 : Int32) (x2 : Int32) (x3 : Int32) (x4 : Int32) (S : jS) : Option (Int32 × jS) := jloop (α := Int32 × Int32 × Int32 × Int32 × jS) (fun g q => f_X11_tryNext_14  (fun x1 x2 x3 x4 S => g (x1, x2, x3, x4, S)) k54 q.1 q.2.1 q.2.2.1 q.2.2.2.1 q.2.2.2.2) jN (x1, x2, x3, x4, S)
def f_X11_tryNext_54   (x2 : Int32) (S : jS) : Option (Int32 × jS) :=
  some (x2, S)
def f_X11_tryNext_e    (S : jS) : Option (Int32 × jS) :=
  jcl (f_X11_gatherFits  S) (fun v2 S1 =>
  lp_X11_tryNext_14  (f_X11_tryNext_54) v2 (-1) 301 1 S1)
def f_X11_tryNext  (S : jS) : Option (Int32 × jS) := f_X11_tryNext_e  S
def f_X12_note_24    (S : jS) : Option (Int32 × jS) :=
  jcl (f_X12_bad (-2) S) (fun v2 S1 =>
  some (v2, S1))
def f_X12_note_e   (x1 : Int32) (x2 : Int32) (x3 : Int32) (S : jS) : Option (Int32 × jS) :=
  jcl (f_X12_isNumber x1 S) (fun v2 S1 =>
  if v2 = 0 then
    f_X12_note_24    S1
  else
    jcl (f_X12_isNumber x2 S1) (fun v4 S3 =>
    if v4 = 0 then
      f_X12_note_24    S3
    else
      jcl (f_X12_in x3.toInt64 0 1 S3) (fun v6 S5 =>
      if v6 = 0 then
        f_X12_note_24    S5
      else
        jld S5 42 11 149 (fun v7 =>
        if v7 = 8 then
          jcl (f_X12_full  S5) (fun v16 S15 =>
          some (v16, S15))
        else
          jld S5 42 11 149 (fun v8 =>
          jst S5 42 (45 + (3 * v8)) 149 x1 (fun S9 =>
          jst S9 42 ((45 + (3 * v8)) + 1) 149 x2 (fun S10 =>
          jst S10 42 ((45 + (3 * v8)) + 2) 149 x3 (fun S11 =>
          jld S11 42 11 149 (fun v12 =>
          jst S11 42 11 149 (v12 + 1) (fun S13 =>
          jld S13 42 11 149 (fun v14 =>
          some (v14, S13))))))))))))
def f_X12_note (x1 : Int32) (x2 : Int32) (x3 : Int32) (S : jS) : Option (Int32 × jS) := f_X12_note_e x1 x2 x3 S
def f_X10_addThree_r24_39    (S : jS) : Option (jS) :=
  some S
def f_X10_addThree_r24_e   (x1 : Int32) (x2 : Int32) (x3 : Int32) (x4 : Int32) (S : jS) : Option (jS) :=
  if (3 * x1) < 0 then
    f_X10_addThree_r24_39    S
  else
    if ((3 * x1) + 2) < 24 then
      jst S 24 (3 * x1) 24 x2 (fun S1 =>
      jst S1 24 ((3 * x1) + 1) 24 x3 (fun S2 =>
      jst S2 24 ((3 * x1) + 2) 24 x4 (fun S3 =>
      f_X10_addThree_r24_39    S3)))
    else
      f_X10_addThree_r24_39    S
def f_X10_addThree_r24 (x1 : Int32) (x2 : Int32) (x3 : Int32) (x4 : Int32) (S : jS) : Option (jS) := f_X10_addThree_r24_e x1 x2 x3 x4 S
def f_X10_addNote_e   (x1 : Int32) (x2 : Int32) (x3 : Int32) (S : jS) : Option (jS) :=
  jcv (f_X10_addThree_r24 (S.1 21 5) x1 x2 x3 S) (fun S1 =>
  jpt S1 21 5 ((S1.1 21 5) + 1) (fun S2 =>
  some S2))
def f_X10_addNote (x1 : Int32) (x2 : Int32) (x3 : Int32) (S : jS) : Option (jS) := f_X10_addNote_e x1 x2 x3 S
def f_X11_note_21    (S : jS) : Option (Int32 × jS) :=
  jcl (f_X11_refuseBad  S) (fun v2 S1 =>
  some (v2, S1))
def f_X11_note_e   (x1 : Int32) (x2 : Int32) (x3 : Int32) (S : jS) : Option (Int32 × jS) :=
  jcl (f_X11_isNumber x1 S) (fun v2 S1 =>
  if v2 = 0 then
    f_X11_note_21    S1
  else
    jcl (f_X11_isNumber x2 S1) (fun v4 S3 =>
    if v4 = 0 then
      f_X11_note_21    S3
    else
      jcl (f_X11_isBit x3 S3) (fun v6 S5 =>
      if v6 = 0 then
        f_X11_note_21    S5
      else
        if (S5.1 21 5) < 8 then
          jcv (f_X10_addNote x1 x2 x3 S5) (fun S7 =>
          some ((S7.1 21 5), S7))
        else
          jcl (f_X11_refuseFull  S5) (fun v9 S8 =>
          some (v9, S8)))))
def f_X11_note (x1 : Int32) (x2 : Int32) (x3 : Int32) (S : jS) : Option (Int32 × jS) := f_X11_note_e x1 x2 x3 S
def f_X12_isLawSo_81  (g : Int32 → Int32 → Int32 → jS → Option (Int32 × jS)) (k88 : Int32 → jS → Option (Int32 × jS)) (a0 : Int32) (x1 : Int32) (x3 : Int32) (S : jS) : Option (Int32 × jS) :=
  g x1 a0 (x3 + 1) S
def f_X12_isLawSo_80  (g : Int32 → Int32 → Int32 → jS → Option (Int32 × jS)) (k88 : Int32 → jS → Option (Int32 × jS)) (x1 : Int32) (x3 : Int32) (S : jS) : Option (Int32 × jS) :=
  f_X12_isLawSo_81  g k88 0 x1 x3 S
def f_X12_isLawSo_73  (g : Int32 → Int32 → Int32 → jS → Option (Int32 × jS)) (k88 : Int32 → jS → Option (Int32 × jS)) (a0 : Int32) (a1 : Int32) (x1 : Int32) (x3 : Int32) (S : jS) : Option (Int32 × jS) :=
  if a1 = a0 then
    f_X12_isLawSo_81  g k88 1 x1 x3 S
  else
    f_X12_isLawSo_80  g k88 x1 x3 S
def f_X12_isLawSo_4  (g : Int32 → Int32 → Int32 → jS → Option (Int32 × jS)) (k88 : Int32 → jS → Option (Int32 × jS)) (x1 : Int32) (x2 : Int32) (x3 : Int32) (S : jS) : Option (Int32 × jS) :=
  jld S 42 11 149 (fun v1 =>
  if x3 < v1 then
    if x2 = 0 then
      f_X12_isLawSo_80  g k88 x1 x3 S
    else
      jdv x1 10 (fun v2 =>
      jrm x1 10 (fun v3 =>
      jld S 42 (45 + (3 * x3)) 149 (fun v4 =>
      jld S 42 ((45 + (3 * x3)) + 1) 149 (fun v5 =>
      jcl (f_X12_mayBy v2 v3 v4 v5 S) (fun v7 S6 =>
      jld S6 42 ((45 + (3 * x3)) + 2) 149 (fun v8 =>
      if v8 = 1 then
        f_X12_isLawSo_73  g k88 1 v7 x1 x3 S6
      else
        f_X12_isLawSo_73  g k88 0 v7 x1 x3 S6))))))
  else
    k88 x2 S)
def lp_X12_isLawSo_4  (k88 : Int32 → jS → Option (Int32 × jS)) (x1 : Int32) (x2 : Int32) (x3 : Int32) (S : jS) : Option (Int32 × jS) := jloop (α := Int32 × Int32 × Int32 × jS) (fun g q => f_X12_isLawSo_4  (fun x1 x2 x3 S => g (x1, x2, x3, S)) k88 q.1 q.2.1 q.2.2.1 q.2.2.2) jN (x1, x2, x3, S)
def f_X12_isLawSo_88   (x2 : Int32) (S : jS) : Option (Int32 × jS) :=
  jzr x2 S
def f_X12_isLawSo_e   (x1 : Int32) (S : jS) : Option (Int32 × jS) :=
  lp_X12_isLawSo_4  (f_X12_isLawSo_88) x1 1 0 S
def f_X12_isLawSo (x1 : Int32) (S : jS) : Option (Int32 × jS) := f_X12_isLawSo_e x1 S
def f_X12_laws_66  (g : Int32 → Int32 → Int32 → Int32 → jS → Option (Int32 × jS)) (k74 : Int32 → Int32 → Int32 → jS → Option (Int32 × jS)) (a0 : Int32) (a1 : Int32) (x1 : Int32) (x3 : Int32) (x4 : Int32) (S : jS) : Option (Int32 × jS) :=
  g x1 (a1 + a0) x3 (x4 + 1) S
def f_X12_laws_54  (g : Int32 → Int32 → Int32 → Int32 → jS → Option (Int32 × jS)) (k74 : Int32 → Int32 → Int32 → jS → Option (Int32 × jS)) (a0 : Int32) (x1 : Int32) (x2 : Int32) (x4 : Int32) (x5 : Int32) (S : jS) : Option (Int32 × jS) :=
  if x5 = 0 then
    f_X12_laws_66  g k74 0 x2 x1 a0 x4 S
  else
    f_X12_laws_66  g k74 1 x2 x1 a0 x4 S
def f_X12_laws_53  (g : Int32 → Int32 → Int32 → Int32 → jS → Option (Int32 × jS)) (k74 : Int32 → Int32 → Int32 → jS → Option (Int32 × jS)) (x1 : Int32) (x2 : Int32) (x3 : Int32) (x4 : Int32) (x5 : Int32) (S : jS) : Option (Int32 × jS) :=
  f_X12_laws_54  g k74 x3 x1 x2 x4 x5 S
def f_X12_laws_24  (g : Int32 → Int32 → Int32 → Int32 → jS → Option (Int32 × jS)) (k74 : Int32 → Int32 → Int32 → jS → Option (Int32 × jS)) (x1 : Int32) (x2 : Int32) (x3 : Int32) (x4 : Int32) (S : jS) : Option (Int32 × jS) :=
  if x4 < 60 then
    jcl (f_X12_isLawSo x4 S) (fun v2 S1 =>
    if v2 = 0 then
      f_X12_laws_53  g k74 x1 x2 x3 x4 v2 S1
    else
      if x2 = 0 then
        f_X12_laws_54  g k74 x4 x1 x2 x4 v2 S1
      else
        f_X12_laws_53  g k74 x1 x2 x3 x4 v2 S1)
  else
    k74 x1 x2 x3 S
def lp_X12_laws_24  (k74 : Int32 → Int32 → Int32 → jS → Option (Int32 × jS)) (x1 : Int32) (x2 : Int32) (x3 : Int32) (x4 : Int32) (S : jS) : Option (Int32 × jS) := jloop (α := Int32 × Int32 × Int32 × Int32 × jS) (fun g q => f_X12_laws_24  (fun x1 x2 x3 x4 S => g (x1, x2, x3, x4, S)) k74 q.1 q.2.1 q.2.2.1 q.2.2.2.1 q.2.2.2.2) jN (x1, x2, x3, x4, S)
def f_X12_laws_83   (a0 : Int32) (S : jS) : Option (Int32 × jS) :=
  some (a0, S)
def f_X12_laws_74   (x1 : Int32) (x2 : Int32) (x3 : Int32) (S : jS) : Option (Int32 × jS) :=
  if x1 = 0 then
    f_X12_laws_83   x2 S
  else
    f_X12_laws_83   x3 S
def f_X12_laws_e   (x1 : Int32) (S : jS) : Option (Int32 × jS) :=
  jcl (f_X12_in x1.toInt64 0 1 S) (fun v2 S1 =>
  if v2 = 0 then
    jcl (f_X12_bad (-10) S1) (fun v4 S3 =>
    some (v4, S3))
  else
    lp_X12_laws_24  (f_X12_laws_74) x1 0 (-1) 0 S1)
def f_X12_laws (x1 : Int32) (S : jS) : Option (Int32 × jS) := f_X12_laws_e x1 S
def f_X11_agreesWithNotes_2  (g : Int32 → Int32 → jS → Option (Int32 × jS)) (k72 : jS → Option (Int32 × jS)) (k80 : jS → Option (Int32 × jS)) (x1 : Int32) (x2 : Int32) (S : jS) : Option (Int32 × jS) :=
  if x2 < (S.1 21 5) then
    if x2 < 8 then
      jld S 24 (3 * x2) 24 (fun v1 =>
      jld S 24 ((3 * x2) + 1) 24 (fun v2 =>
      jcl (f_X2_allows x1 v1 v2 S) (fun v4 S3 =>
      jcl (f_X11_bit v4 S3) (fun v6 S5 =>
      jld S5 24 ((3 * x2) + 2) 24 (fun v7 =>
      if v6 = v7 then
        g x1 (x2 + 1) S5
      else
        k72  S5)))))
    else
      k80  S
  else
    k80  S
def lp_X11_agreesWithNotes_2  (k72 : jS → Option (Int32 × jS)) (k80 : jS → Option (Int32 × jS)) (x1 : Int32) (x2 : Int32) (S : jS) : Option (Int32 × jS) := jloop (α := Int32 × Int32 × jS) (fun g q => f_X11_agreesWithNotes_2  (fun x1 x2 S => g (x1, x2, S)) k72 k80 q.1 q.2.1 q.2.2) jN (x1, x2, S)
def f_X11_agreesWithNotes_72    (S : jS) : Option (Int32 × jS) :=
  jzr 0 S
def f_X11_agreesWithNotes_80    (S : jS) : Option (Int32 × jS) :=
  jzr 1 S
def f_X11_agreesWithNotes_e   (x1 : Int32) (S : jS) : Option (Int32 × jS) :=
  lp_X11_agreesWithNotes_2  (f_X11_agreesWithNotes_72) (f_X11_agreesWithNotes_80) x1 0 S
def f_X11_agreesWithNotes (x1 : Int32) (S : jS) : Option (Int32 × jS) := f_X11_agreesWithNotes_e x1 S
def f_X11_laws_49  (g : Int32 → Int32 → Int32 → Int32 → jS → Option (Int32 × jS)) (k55 : Int32 → Int32 → Int32 → jS → Option (Int32 × jS)) (x1 : Int32) (x2 : Int32) (x3 : Int32) (x4 : Int32) (S : jS) : Option (Int32 × jS) :=
  g x1 x2 x3 (x4 + 1) S
def f_X11_laws_45  (g : Int32 → Int32 → Int32 → Int32 → jS → Option (Int32 × jS)) (k55 : Int32 → Int32 → Int32 → jS → Option (Int32 × jS)) (a0 : Int32) (x1 : Int32) (x2 : Int32) (x4 : Int32) (S : jS) : Option (Int32 × jS) :=
  f_X11_laws_49  g k55 x1 (x2 + 1) a0 x4 S
def f_X11_laws_19  (g : Int32 → Int32 → Int32 → Int32 → jS → Option (Int32 × jS)) (k55 : Int32 → Int32 → Int32 → jS → Option (Int32 × jS)) (x1 : Int32) (x2 : Int32) (x3 : Int32) (x4 : Int32) (S : jS) : Option (Int32 × jS) :=
  if x4 < 60 then
    jcl (f_X11_agreesWithNotes x4 S) (fun v2 S1 =>
    if v2 = 0 then
      f_X11_laws_49  g k55 x1 x2 x3 x4 S1
    else
      if x2 = 0 then
        f_X11_laws_45  g k55 x4 x1 x2 x4 S1
      else
        f_X11_laws_45  g k55 x3 x1 x2 x4 S1)
  else
    k55 x1 x2 x3 S
def lp_X11_laws_19  (k55 : Int32 → Int32 → Int32 → jS → Option (Int32 × jS)) (x1 : Int32) (x2 : Int32) (x3 : Int32) (x4 : Int32) (S : jS) : Option (Int32 × jS) := jloop (α := Int32 × Int32 × Int32 × Int32 × jS) (fun g q => f_X11_laws_19  (fun x1 x2 x3 x4 S => g (x1, x2, x3, x4, S)) k55 q.1 q.2.1 q.2.2.1 q.2.2.2.1 q.2.2.2.2) jN (x1, x2, x3, x4, S)
def f_X11_laws_64   (a0 : Int32) (S : jS) : Option (Int32 × jS) :=
  some (a0, S)
def f_X11_laws_55   (x1 : Int32) (x2 : Int32) (x3 : Int32) (S : jS) : Option (Int32 × jS) :=
  if x1 = 0 then
    f_X11_laws_64   x2 S
  else
    f_X11_laws_64   x3 S
def f_X11_laws_e   (x1 : Int32) (S : jS) : Option (Int32 × jS) :=
  jcl (f_X11_isBit x1 S) (fun v2 S1 =>
  if v2 = 0 then
    jcl (f_X11_refuseBadApart  S1) (fun v4 S3 =>
    some (v4, S3))
  else
    lp_X11_laws_19  (f_X11_laws_55) x1 0 (-1) 0 S1)
def f_X11_laws (x1 : Int32) (S : jS) : Option (Int32 × jS) := f_X11_laws_e x1 S
def f_X12_forget_28   (a0 : Int32) (S : jS) : Option (Int32 × jS) :=
  jld S 42 a0 149 (fun v1 =>
  jst S 42 a0 149 0 (fun S2 =>
  some (v1, S2)))
def f_X12_forget_e   (x1 : Int32) (S : jS) : Option (Int32 × jS) :=
  jcl (f_X12_in x1.toInt64 0 1 S) (fun v2 S1 =>
  if v2 = 0 then
    jcl (f_X12_bad (-2) S1) (fun v4 S3 =>
    some (v4, S3))
  else
    if x1 = 0 then
      f_X12_forget_28   10 S1
    else
      f_X12_forget_28   11 S1)
def f_X12_forget (x1 : Int32) (S : jS) : Option (Int32 × jS) := f_X12_forget_e x1 S
def f_X11_forget_57   (x2 : Int32) (S : jS) : Option (Int32 × jS) :=
  some (x2, S)
def f_X11_forget_33   (a0 : Int32) (x1 : Int32) (S : jS) : Option (Int32 × jS) :=
  if x1 = 0 then
    jpt S 21 3 0 (fun S2 =>
    f_X11_forget_57   a0 S2)
  else
    jpt S 21 5 0 (fun S1 =>
    f_X11_forget_57   a0 S1)
def f_X11_forget_e   (x1 : Int32) (S : jS) : Option (Int32 × jS) :=
  jcl (f_X11_isBit x1 S) (fun v2 S1 =>
  if v2 = 0 then
    jcl (f_X11_refuseBad  S1) (fun v4 S3 =>
    some (v4, S3))
  else
    if x1 = 0 then
      f_X11_forget_33   (S1.1 21 3) x1 S1
    else
      f_X11_forget_33   (S1.1 21 5) x1 S1)
def f_X11_forget (x1 : Int32) (S : jS) : Option (Int32 × jS) := f_X11_forget_e x1 S
def f_X12_split_47  (g : Int32 → Int32 → Int32 → jS → Option (Int32 × jS)) (k54 : Int32 → Int32 → jS → Option (Int32 × jS)) (a0 : Int32) (x1 : Int32) (x3 : Int32) (S : jS) : Option (Int32 × jS) :=
  g x1 a0 (x3 + (-1)) S
def f_X12_split_19  (g : Int32 → Int32 → Int32 → jS → Option (Int32 × jS)) (k54 : Int32 → Int32 → jS → Option (Int32 × jS)) (x1 : Int32) (x2 : Int32) (x3 : Int32) (S : jS) : Option (Int32 × jS) :=
  if 0 < x3 then
    jrm (x1 + x3) 8 (fun v1 =>
    jld S 42 v1 149 (fun v2 =>
    if v2 = 0 then
      f_X12_split_47  g k54 v1 x1 x3 S
    else
      f_X12_split_47  g k54 x2 x1 x3 S))
  else
    k54 x1 x2 S
def lp_X12_split_19  (k54 : Int32 → Int32 → jS → Option (Int32 × jS)) (x1 : Int32) (x2 : Int32) (x3 : Int32) (S : jS) : Option (Int32 × jS) := jloop (α := Int32 × Int32 × Int32 × jS) (fun g q => f_X12_split_19  (fun x1 x2 x3 S => g (x1, x2, x3, S)) k54 q.1 q.2.1 q.2.2.1 q.2.2.2) jN (x1, x2, x3, S)
def f_X12_split_69    (S : jS) : Option (Int32 × jS) :=
  some ((-1), S)
def f_X12_split_54   (x1 : Int32) (x2 : Int32) (S : jS) : Option (Int32 × jS) :=
  if x2 = (-1) then
    f_X12_split_69    S
  else
    jld S 42 x1 149 (fun v1 =>
    if v1 < 2 then
      f_X12_split_69    S
    else
      jcv (f_X12_layHand  S) (fun S2 =>
      jld S2 42 x1 149 (fun v3 =>
      jdv v3 2 (fun v4 =>
      jst S2 47 x1 8 v4 (fun S5 =>
      jld S5 42 x1 149 (fun v6 =>
      jld S5 42 x1 149 (fun v7 =>
      jdv v7 2 (fun v8 =>
      jst S5 47 x2 8 (v6 - v8) (fun S9 =>
      jcl (f_X12_manyQuarrels  S9) (fun v11 S10 =>
      some (v11, S10)))))))))))
def f_X12_split_e   (x1 : Int32) (S : jS) : Option (Int32 × jS) :=
  jcl (f_X12_isHouse x1 S) (fun v2 S1 =>
  if v2 = 0 then
    jcl (f_X12_bad (-2) S1) (fun v4 S3 =>
    some (v4, S3))
  else
    lp_X12_split_19  (f_X12_split_54) x1 (-1) 8 S1)
def f_X12_split (x1 : Int32) (S : jS) : Option (Int32 × jS) := f_X12_split_e x1 S
def f_X11_emptyBehind_50  (g : Int32 → Int32 → jS → Option (Int32 × jS)) (k48 : Int32 → jS → Option (Int32 × jS)) (k56 : jS → Option (Int32 × jS)) (x1 : Int32) (x2 : Int32) (S : jS) : Option (Int32 × jS) :=
  g x1 (x2 + 1) S
def f_X11_emptyBehind_28  (g : Int32 → Int32 → jS → Option (Int32 × jS)) (k48 : Int32 → jS → Option (Int32 × jS)) (k56 : jS → Option (Int32 × jS)) (a0 : Int32) (x1 : Int32) (x2 : Int32) (S : jS) : Option (Int32 × jS) :=
  jcl (f_X11_isHouse a0 S) (fun v2 S1 =>
  if v2 = 0 then
    f_X11_emptyBehind_50  g k48 k56 x1 x2 S1
  else
    jld S1 22 a0 8 (fun v3 =>
    if v3 = 0 then
      k48 a0 S1
    else
      f_X11_emptyBehind_50  g k48 k56 x1 x2 S1))
def f_X11_emptyBehind_2  (g : Int32 → Int32 → jS → Option (Int32 × jS)) (k48 : Int32 → jS → Option (Int32 × jS)) (k56 : jS → Option (Int32 × jS)) (x1 : Int32) (x2 : Int32) (S : jS) : Option (Int32 × jS) :=
  if x2 < 8 then
    if (x1 + x2) < 8 then
      f_X11_emptyBehind_28  g k48 k56 (x1 + x2) x1 x2 S
    else
      f_X11_emptyBehind_28  g k48 k56 ((x1 + x2) - 8) x1 x2 S
  else
    k56  S
def lp_X11_emptyBehind_2  (k48 : Int32 → jS → Option (Int32 × jS)) (k56 : jS → Option (Int32 × jS)) (x1 : Int32) (x2 : Int32) (S : jS) : Option (Int32 × jS) := jloop (α := Int32 × Int32 × jS) (fun g q => f_X11_emptyBehind_2  (fun x1 x2 S => g (x1, x2, S)) k48 k56 q.1 q.2.1 q.2.2) jN (x1, x2, S)
def f_X11_emptyBehind_48   (x3 : Int32) (S : jS) : Option (Int32 × jS) :=
  some (x3, S)
def f_X11_emptyBehind_56    (S : jS) : Option (Int32 × jS) :=
  some ((-1), S)
def f_X11_emptyBehind_e   (x1 : Int32) (S : jS) : Option (Int32 × jS) :=
  lp_X11_emptyBehind_2  (f_X11_emptyBehind_48) (f_X11_emptyBehind_56) x1 1 S
def f_X11_emptyBehind (x1 : Int32) (S : jS) : Option (Int32 × jS) := f_X11_emptyBehind_e x1 S
def f_X2_quarrelling_r38_39  (g : Int32 → Int32 → Int32 → jS → Option (Int32 × jS)) (k45 : Int32 → jS → Option (Int32 × jS)) (x1 : Int32) (x3 : Int32) (x4 : Int32) (S : jS) : Option (Int32 × jS) :=
  g x1 x3 (x4 + 1) S
def f_X2_quarrelling_r38_5  (g : Int32 → Int32 → Int32 → jS → Option (Int32 × jS)) (k45 : Int32 → jS → Option (Int32 × jS)) (x1 : Int32) (x3 : Int32) (x4 : Int32) (S : jS) : Option (Int32 × jS) :=
  if (x4 + 1) < 8 then
    jld S 38 x4 8 (fun v1 =>
    jld S 38 (x4 + 1) 8 (fun v2 =>
    jcl (f_X2_allows x1 v1 v2 S) (fun v4 S3 =>
    if v4 = 0 then
      f_X2_quarrelling_r38_39  g k45 x1 (x3 ||| (1 <<< (x4 &&& 31))) x4 S3
    else
      f_X2_quarrelling_r38_39  g k45 x1 x3 x4 S3)))
  else
    k45 x3 S
def lp_X2_quarrelling_r38_5  (k45 : Int32 → jS → Option (Int32 × jS)) (x1 : Int32) (x3 : Int32) (x4 : Int32) (S : jS) : Option (Int32 × jS) := jloop (α := Int32 × Int32 × Int32 × jS) (fun g q => f_X2_quarrelling_r38_5  (fun x1 x3 x4 S => g (x1, x3, x4, S)) k45 q.1 q.2.1 q.2.2.1 q.2.2.2) jN (x1, x3, x4, S)
def f_X2_quarrelling_r38_45   (x3 : Int32) (S : jS) : Option (Int32 × jS) :=
  some (x3, S)
def f_X2_quarrelling_r38_e   (x1 : Int32) (S : jS) : Option (Int32 × jS) :=
  lp_X2_quarrelling_r38_5  (f_X2_quarrelling_r38_45) x1 0 0 S
def f_X2_quarrelling_r38 (x1 : Int32) (S : jS) : Option (Int32 × jS) := f_X2_quarrelling_r38_e x1 S
def f_X11_split_38    (S : jS) : Option (Int32 × jS) :=
  some ((-1), S)
def f_X11_split_e   (x1 : Int32) (S : jS) : Option (Int32 × jS) :=
  jcl (f_X11_isHouse x1 S) (fun v2 S1 =>
  if v2 = 0 then
    jcl (f_X11_refuseBad  S1) (fun v16 S15 =>
    some (v16, S15))
  else
    jld S1 22 x1 8 (fun v3 =>
    jcl (f_X11_emptyBehind x1 S1) (fun v5 S4 =>
    if v3 < 2 then
      f_X11_split_38    S4
    else
      if v5 = (-1) then
        f_X11_split_38    S4
      else
        jcp S4 22 8 0 38 8 0 8 (fun S6 =>
        jdv v3 2 (fun v7 =>
        jst S6 38 x1 8 v7 (fun S8 =>
        jdv v3 2 (fun v9 =>
        jst S8 38 v5 8 (v3 - v9) (fun S10 =>
        jcl (f_X2_quarrelling_r38 (S10.1 21 1) S10) (fun v12 S11 =>
        jcl (f_J6_bitCount_0f7a4 v12 S11) (fun v14 S13 =>
        some (v14, S13)))))))))))
def f_X11_split (x1 : Int32) (S : jS) : Option (Int32 × jS) := f_X11_split_e x1 S
def f_X12_fraction_6  (g : Int64 → Int64 → Int64 → Int64 → jS → Option (jS)) (k31 : Int64 → Int64 → Int64 → jS → Option (jS)) (x1 : Int64) (x3 : Int64) (x5 : Int64) (x7 : Int64) (S : jS) : Option (jS) :=
  if (lg_cmp x7 0) = 0 then
    k31 x1 x3 x5 S
  else
    jrl x5 x7 (fun v1 =>
    g x1 x3 x7 v1 S)
def lp_X12_fraction_6  (k31 : Int64 → Int64 → Int64 → jS → Option (jS)) (x1 : Int64) (x3 : Int64) (x5 : Int64) (x7 : Int64) (S : jS) : Option (jS) := jloop (α := Int64 × Int64 × Int64 × Int64 × jS) (fun g q => f_X12_fraction_6  (fun x1 x3 x5 x7 S => g (x1, x3, x5, x7, S)) k31 q.1 q.2.1 q.2.2.1 q.2.2.2.1 q.2.2.2.2) jN (x1, x3, x5, x7, S)
def f_X12_fraction_31   (x1 : Int64) (x3 : Int64) (x5 : Int64) (S : jS) : Option (jS) :=
  jdl x1 x5 (fun v1 =>
  jpl S 41 5 v1 (fun S2 =>
  jdl x3 x5 (fun v3 =>
  jpl S2 41 6 v3 (fun S4 =>
  some S4))))
def f_X12_fraction_e   (x1 : Int64) (x3 : Int64) (S : jS) : Option (jS) :=
  lp_X12_fraction_6  (f_X12_fraction_31) x1 x3 x1 x3 S
def f_X12_fraction (x1 : Int64) (x3 : Int64) (S : jS) : Option (jS) := f_X12_fraction_e x1 x3 S
def f_X12_odds_32  (g : Int32 → Int32 → Int64 → Int64 → Int32 → jS → Option (Int32 × jS)) (k55 : Int32 → Int32 → Int64 → Int64 → jS → Option (Int32 × jS)) (x1 : Int32) (x2 : Int32) (x3 : Int64) (x5 : Int64) (x7 : Int32) (S : jS) : Option (Int32 × jS) :=
  jcl (f_X12_bits x2 S) (fun v2 S1 =>
  if x7 < v2 then
    g x1 x2 x3 (x5 * 10) (x7 + 1) S1
  else
    k55 x1 x2 x3 x5 S1)
def lp_X12_odds_32  (k55 : Int32 → Int32 → Int64 → Int64 → jS → Option (Int32 × jS)) (x1 : Int32) (x2 : Int32) (x3 : Int64) (x5 : Int64) (x7 : Int32) (S : jS) : Option (Int32 × jS) := jloop (α := Int32 × Int32 × Int64 × Int64 × Int32 × jS) (fun g q => f_X12_odds_32  (fun x1 x2 x3 x5 x7 S => g (x1, x2, x3, x5, x7, S)) k55 q.1 q.2.1 q.2.2.1 q.2.2.2.1 q.2.2.2.2.1 q.2.2.2.2.2) jN (x1, x2, x3, x5, x7, S)
def f_X12_odds_206  (g : Int32 → Int32 → Int64 → Int64 → Int32 → jS → Option (Int32 × jS)) (k212 : Int64 → Int64 → jS → Option (Int32 × jS)) (x1 : Int32) (x2 : Int32) (x3 : Int64) (x5 : Int64) (x7 : Int32) (S : jS) : Option (Int32 × jS) :=
  g x1 x2 x3 x5 (x7 + 1) S
def f_X12_odds_183  (g : Int32 → Int32 → Int64 → Int64 → Int32 → Int64 → Int32 → jS → Option (Int32 × jS)) (k190 : Int32 → Int32 → Int64 → Int64 → Int32 → Int64 → jS → Option (Int32 × jS)) (a0 : Int32) (a1 : Int32) (x1 : Int32) (x2 : Int32) (x3 : Int64) (x5 : Int64) (x7 : Int32) (x8 : Int64) (x10 : Int32) (S : jS) : Option (Int32 × jS) :=
  jst S 47 a1 8 a0 (fun S1 =>
  g x1 x2 x3 x5 x7 x8 (x10 + 1) S1)
def f_X12_odds_176  (g : Int32 → Int32 → Int64 → Int64 → Int32 → Int64 → Int32 → jS → Option (Int32 × jS)) (k190 : Int32 → Int32 → Int64 → Int64 → Int32 → Int64 → jS → Option (Int32 × jS)) (a0 : Int32) (x1 : Int32) (x2 : Int32) (x3 : Int64) (x5 : Int64) (x7 : Int32) (x8 : Int64) (x10 : Int32) (S : jS) : Option (Int32 × jS) :=
  jld S 42 x10 149 (fun v1 =>
  f_X12_odds_183  g k190 v1 a0 x1 x2 x3 x5 x7 x8 x10 S)
def f_X12_odds_137  (g : Int32 → Int32 → Int64 → Int64 → Int32 → Int64 → Int32 → jS → Option (Int32 × jS)) (k190 : Int32 → Int32 → Int64 → Int64 → Int32 → Int64 → jS → Option (Int32 × jS)) (a0 : Int64) (a1 : Int64) (x1 : Int32) (x2 : Int32) (x3 : Int64) (x5 : Int64) (x7 : Int32) (x10 : Int32) (x11 : Int32) (S : jS) : Option (Int32 × jS) :=
  if x11 = 0 then
    f_X12_odds_176  g k190 x10 x1 x2 x3 x5 x7 (a1 * a0) x10 S
  else
    jld S 42 x10 149 (fun v1 =>
    if v1 < 300 then
      jld S 42 x10 149 (fun v2 =>
      f_X12_odds_183  g k190 (v2 + 1) x10 x1 x2 x3 x5 x7 (a1 * a0) x10 S)
    else
      f_X12_odds_176  g k190 x10 x1 x2 x3 x5 x7 (a1 * a0) x10 S)
def f_X12_odds_104  (g : Int32 → Int32 → Int64 → Int64 → Int32 → Int64 → Int32 → jS → Option (Int32 × jS)) (k190 : Int32 → Int32 → Int64 → Int64 → Int32 → Int64 → jS → Option (Int32 × jS)) (a0 : Int32) (x1 : Int32) (x2 : Int32) (x3 : Int64) (x5 : Int64) (x7 : Int32) (x8 : Int64) (x10 : Int32) (S : jS) : Option (Int32 × jS) :=
  jld S 42 x10 149 (fun v1 =>
  if v1 = 0 then
    f_X12_odds_137  g k190 1 x8 x1 x2 x3 x5 x7 x10 a0 S
  else
    if a0 = 0 then
      f_X12_odds_137  g k190 (((10 - x1) : Int32).toInt64) x8 x1 x2 x3 x5 x7 x10 a0 S
    else
      f_X12_odds_137  g k190 x1.toInt64 x8 x1 x2 x3 x5 x7 x10 a0 S)
def f_X12_odds_81  (g : Int32 → Int32 → Int64 → Int64 → Int32 → Int64 → Int32 → jS → Option (Int32 × jS)) (k190 : Int32 → Int32 → Int64 → Int64 → Int32 → Int64 → jS → Option (Int32 × jS)) (x1 : Int32) (x2 : Int32) (x3 : Int64) (x5 : Int64) (x7 : Int32) (x8 : Int64) (x10 : Int32) (S : jS) : Option (Int32 × jS) :=
  if x10 < 8 then
    if ((x7 >>> (x10 &&& 31)) &&& 1) = 1 then
      f_X12_odds_104  g k190 1 x1 x2 x3 x5 x7 x8 x10 S
    else
      f_X12_odds_104  g k190 0 x1 x2 x3 x5 x7 x8 x10 S
  else
    k190 x1 x2 x3 x5 x7 x8 S
def lp_X12_odds_81  (k190 : Int32 → Int32 → Int64 → Int64 → Int32 → Int64 → jS → Option (Int32 × jS)) (x1 : Int32) (x2 : Int32) (x3 : Int64) (x5 : Int64) (x7 : Int32) (x8 : Int64) (x10 : Int32) (S : jS) : Option (Int32 × jS) := jloop (α := Int32 × Int32 × Int64 × Int64 × Int32 × Int64 × Int32 × jS) (fun g q => f_X12_odds_81  (fun x1 x2 x3 x5 x7 x8 x10 S => g (x1, x2, x3, x5, x7, x8, x10, S)) k190 q.1 q.2.1 q.2.2.1 q.2.2.2.1 q.2.2.2.2.1 q.2.2.2.2.2.1 q.2.2.2.2.2.2.1 q.2.2.2.2.2.2.2) jN (x1, x2, x3, x5, x7, x8, x10, S)
def f_X12_odds_204  (g : Int32 → Int32 → Int64 → Int64 → Int32 → jS → Option (Int32 × jS)) (k212 : Int64 → Int64 → jS → Option (Int32 × jS)) (a0 : Int64) (a1 : Int64) (x1 : Int32) (x2 : Int32) (x5 : Int64) (x7 : Int32) (S : jS) : Option (Int32 × jS) :=
  f_X12_odds_206  g k212 x1 x2 (a1 + a0) x5 x7 S
def f_X12_odds_190  (g : Int32 → Int32 → Int64 → Int64 → Int32 → jS → Option (Int32 × jS)) (k212 : Int64 → Int64 → jS → Option (Int32 × jS)) (x1 : Int32) (x2 : Int32) (x3 : Int64) (x5 : Int64) (x7 : Int32) (x8 : Int64) (S : jS) : Option (Int32 × jS) :=
  jcl (f_X12_manyQuarrels  S) (fun v2 S1 =>
  if v2 = 0 then
    f_X12_odds_204  g k212 x8 x3 x1 x2 x5 x7 S1
  else
    f_X12_odds_204  g k212 0 x3 x1 x2 x5 x7 S1)
def f_X12_odds_58  (g : Int32 → Int32 → Int64 → Int64 → Int32 → jS → Option (Int32 × jS)) (k212 : Int64 → Int64 → jS → Option (Int32 × jS)) (x1 : Int32) (x2 : Int32) (x3 : Int64) (x5 : Int64) (x7 : Int32) (S : jS) : Option (Int32 × jS) :=
  if x7 < 256 then
    if (x7 &&& (x2 ^^^ (-1))) = 0 then
      lp_X12_odds_81  (f_X12_odds_190  g k212) x1 x2 x3 x5 x7 1 0 S
    else
      f_X12_odds_206  g k212 x1 x2 x3 x5 x7 S
  else
    k212 x3 x5 S
def lp_X12_odds_58  (k212 : Int64 → Int64 → jS → Option (Int32 × jS)) (x1 : Int32) (x2 : Int32) (x3 : Int64) (x5 : Int64) (x7 : Int32) (S : jS) : Option (Int32 × jS) := jloop (α := Int32 × Int32 × Int64 × Int64 × Int32 × jS) (fun g q => f_X12_odds_58  (fun x1 x2 x3 x5 x7 S => g (x1, x2, x3, x5, x7, S)) k212 q.1 q.2.1 q.2.2.1 q.2.2.2.1 q.2.2.2.2.1 q.2.2.2.2.2) jN (x1, x2, x3, x5, x7, S)
def f_X12_odds_212   (x3 : Int64) (x5 : Int64) (S : jS) : Option (Int32 × jS) :=
  jcv (f_X12_fraction x3 x5 S) (fun S1 =>
  some (1, S1))
def f_X12_odds_55   (x1 : Int32) (x2 : Int32) (x3 : Int64) (x5 : Int64) (S : jS) : Option (Int32 × jS) :=
  lp_X12_odds_58  (f_X12_odds_212) x1 x2 x3 x5 0 S
def f_X12_odds_e   (x1 : Int32) (S : jS) : Option (Int32 × jS) :=
  jcl (f_X12_in x1.toInt64 0 10 S) (fun v2 S1 =>
  if v2 = 0 then
    jcl (f_X12_bad (-2) S1) (fun v6 S5 =>
    some (v6, S5))
  else
    jcl (f_X12_lived  S1) (fun v4 S3 =>
    lp_X12_odds_32  (f_X12_odds_55) x1 v4 0 1 0 S3))
def f_X12_odds (x1 : Int32) (S : jS) : Option (Int32 × jS) := f_X12_odds_e x1 S
def f_X2_peacefulTenths_r22_172  (g : Int32 → Int32 → Int32 → Int32 → Int64 → Int64 → Int32 → jS → Option (Int64 × jS)) (k188 : Int64 → Int64 → jS → Option (Int64 × jS)) (a0 : Int64) (x1 : Int32) (x3 : Int32) (x6 : Int64) (x10 : Int32) (x11 : Int32) (x12 : Int32) (S : jS) : Option (Int64 × jS) :=
  g x1 x3 x11 x12 x6 a0 (x10 + 1) S
def f_X2_peacefulTenths_r22_156  (g : Int32 → Int32 → Int32 → Int32 → Int64 → Int64 → Int32 → jS → Option (Int64 × jS)) (k188 : Int64 → Int64 → jS → Option (Int64 × jS)) (a0 : Int64) (x1 : Int32) (x3 : Int32) (x10 : Int32) (x11 : Int32) (x12 : Int32) (x15 : Int64) (S : jS) : Option (Int64 × jS) :=
  if x11 = 0 then
    f_X2_peacefulTenths_r22_172  g k188 0 x1 x3 a0 x10 x11 x12 S
  else
    f_X2_peacefulTenths_r22_172  g k188 (x15 * x3.toInt64) x1 x3 a0 x10 x11 x12 S
def f_X2_peacefulTenths_r22_135  (g : Int32 → Int32 → Int32 → Int32 → Int64 → Int64 → Int32 → jS → Option (Int64 × jS)) (k188 : Int64 → Int64 → jS → Option (Int64 × jS)) (a0 : Int64) (a1 : Int64) (x1 : Int32) (x3 : Int32) (x10 : Int32) (x11 : Int32) (x12 : Int32) (x13 : Int64) (S : jS) : Option (Int64 × jS) :=
  if x11 = 0 then
    f_X2_peacefulTenths_r22_156  g k188 x13 x1 x3 x10 x11 x12 (a1 + a0) S
  else
    f_X2_peacefulTenths_r22_156  g k188 (x13 * ((10 - x3) : Int32).toInt64) x1 x3 x10 x11 x12 (a1 + a0) S
def f_X2_peacefulTenths_r22_113  (g : Int32 → Int32 → Int32 → Int32 → Int64 → Int64 → Int32 → jS → Option (Int64 × jS)) (k188 : Int64 → Int64 → jS → Option (Int64 × jS)) (a0 : Int64) (x1 : Int32) (x3 : Int32) (x5 : Int32) (x8 : Int64) (x10 : Int32) (x11 : Int32) (x12 : Int32) (x13 : Int64) (S : jS) : Option (Int64 × jS) :=
  jcl (f_X2_allows x1 x5 x12 S) (fun v2 S1 =>
  if v2 = 0 then
    f_X2_peacefulTenths_r22_135  g k188 0 a0 x1 x3 x10 x11 x12 x13 S1
  else
    f_X2_peacefulTenths_r22_135  g k188 x8 a0 x1 x3 x10 x11 x12 x13 S1)
def f_X2_peacefulTenths_r22_92  (g : Int32 → Int32 → Int32 → Int32 → Int64 → Int64 → Int32 → jS → Option (Int64 × jS)) (k188 : Int64 → Int64 → jS → Option (Int64 × jS)) (a0 : Int64) (a1 : Int64) (x1 : Int32) (x3 : Int32) (x4 : Int32) (x5 : Int32) (x6 : Int64) (x8 : Int64) (x10 : Int32) (x11 : Int32) (x12 : Int32) (S : jS) : Option (Int64 × jS) :=
  jcl (f_X2_allows x1 x4 x12 S) (fun v2 S1 =>
  if v2 = 0 then
    f_X2_peacefulTenths_r22_113  g k188 0 x1 x3 x5 x8 x10 x11 x12 (a1 + a0) S1
  else
    f_X2_peacefulTenths_r22_113  g k188 x6 x1 x3 x5 x8 x10 x11 x12 (a1 + a0) S1)
def f_X2_peacefulTenths_r22_70  (g : Int32 → Int32 → Int32 → Int32 → Int64 → Int64 → Int32 → jS → Option (Int64 × jS)) (k188 : Int64 → Int64 → jS → Option (Int64 × jS)) (a0 : Int64) (x1 : Int32) (x3 : Int32) (x4 : Int32) (x5 : Int32) (x6 : Int64) (x8 : Int64) (x10 : Int32) (x11 : Int32) (x12 : Int32) (S : jS) : Option (Int64 × jS) :=
  jcl (f_X2_allows x1 x5 x11 S) (fun v2 S1 =>
  if v2 = 0 then
    f_X2_peacefulTenths_r22_92  g k188 0 a0 x1 x3 x4 x5 x6 x8 x10 x11 x12 S1
  else
    f_X2_peacefulTenths_r22_92  g k188 x8 a0 x1 x3 x4 x5 x6 x8 x10 x11 x12 S1)
def f_X2_peacefulTenths_r22_50  (g : Int32 → Int32 → Int32 → Int32 → Int64 → Int64 → Int32 → jS → Option (Int64 × jS)) (k188 : Int64 → Int64 → jS → Option (Int64 × jS)) (a0 : Int32) (x1 : Int32) (x3 : Int32) (x4 : Int32) (x5 : Int32) (x6 : Int64) (x8 : Int64) (x10 : Int32) (x11 : Int32) (S : jS) : Option (Int64 × jS) :=
  jcl (f_X2_allows x1 x4 x11 S) (fun v2 S1 =>
  if v2 = 0 then
    f_X2_peacefulTenths_r22_70  g k188 0 x1 x3 x4 x5 x6 x8 x10 x11 a0 S1
  else
    f_X2_peacefulTenths_r22_70  g k188 x6 x1 x3 x4 x5 x6 x8 x10 x11 a0 S1)
def f_X2_peacefulTenths_r22_41  (g : Int32 → Int32 → Int32 → Int32 → Int64 → Int64 → Int32 → jS → Option (Int64 × jS)) (k188 : Int64 → Int64 → jS → Option (Int64 × jS)) (x1 : Int32) (x3 : Int32) (x4 : Int32) (x5 : Int32) (x6 : Int64) (x8 : Int64) (x10 : Int32) (x11 : Int32) (S : jS) : Option (Int64 × jS) :=
  f_X2_peacefulTenths_r22_50  g k188 x11 x1 x3 x4 x5 x6 x8 x10 x11 S
def f_X2_peacefulTenths_r22_15  (g : Int32 → Int32 → Int32 → Int32 → Int64 → Int64 → Int32 → jS → Option (Int64 × jS)) (k188 : Int64 → Int64 → jS → Option (Int64 × jS)) (x1 : Int32) (x3 : Int32) (x4 : Int32) (x5 : Int32) (x6 : Int64) (x8 : Int64) (x10 : Int32) (S : jS) : Option (Int64 × jS) :=
  if x10 < 8 then
    jld S 22 x10 8 (fun v1 =>
    if v1 = 0 then
      f_X2_peacefulTenths_r22_41  g k188 x1 x3 x4 x5 x6 x8 x10 v1 S
    else
      if v1 < 300 then
        f_X2_peacefulTenths_r22_50  g k188 (v1 + 1) x1 x3 x4 x5 x6 x8 x10 v1 S
      else
        f_X2_peacefulTenths_r22_41  g k188 x1 x3 x4 x5 x6 x8 x10 v1 S)
  else
    k188 x6 x8 S
def lp_X2_peacefulTenths_r22_15  (k188 : Int64 → Int64 → jS → Option (Int64 × jS)) (x1 : Int32) (x3 : Int32) (x4 : Int32) (x5 : Int32) (x6 : Int64) (x8 : Int64) (x10 : Int32) (S : jS) : Option (Int64 × jS) := jloop (α := Int32 × Int32 × Int32 × Int32 × Int64 × Int64 × Int32 × jS) (fun g q => f_X2_peacefulTenths_r22_15  (fun x1 x3 x4 x5 x6 x8 x10 S => g (x1, x3, x4, x5, x6, x8, x10, S)) k188 q.1 q.2.1 q.2.2.1 q.2.2.2.1 q.2.2.2.2.1 q.2.2.2.2.2.1 q.2.2.2.2.2.2.1 q.2.2.2.2.2.2.2) jN (x1, x3, x4, x5, x6, x8, x10, S)
def f_X2_peacefulTenths_r22_188   (x6 : Int64) (x8 : Int64) (S : jS) : Option (Int64 × jS) :=
  some ((x6 + x8), S)
def f_X2_peacefulTenths_r22_e   (x1 : Int32) (x3 : Int32) (S : jS) : Option (Int64 × jS) :=
  lp_X2_peacefulTenths_r22_15  (f_X2_peacefulTenths_r22_188) x1 x3 0 0 1 0 0 S
def f_X2_peacefulTenths_r22 (x1 : Int32) (x3 : Int32) (S : jS) : Option (Int64 × jS) := f_X2_peacefulTenths_r22_e x1 x3 S
def f_X11_odds_10    (S : jS) : Option (Int32 × jS) :=
  jcl (f_X11_refuseBad  S) (fun v2 S1 =>
  some (v2, S1))
def f_X11_odds_50  (g : Int64 → Int64 → Int32 → jS → Option (Int32 × jS)) (k69 : Int64 → Int64 → jS → Option (Int32 × jS)) (x2 : Int64) (x4 : Int64) (x6 : Int32) (S : jS) : Option (Int32 × jS) :=
  if 0 < x6 then
    g x2 (x4 * 10) (x6 + (-1)) S
  else
    k69 x2 x4 S
def lp_X11_odds_50  (k69 : Int64 → Int64 → jS → Option (Int32 × jS)) (x2 : Int64) (x4 : Int64) (x6 : Int32) (S : jS) : Option (Int32 × jS) := jloop (α := Int64 × Int64 × Int32 × jS) (fun g q => f_X11_odds_50  (fun x2 x4 x6 S => g (x2, x4, x6, S)) k69 q.1 q.2.1 q.2.2.1 q.2.2.2) jN (x2, x4, x6, S)
def f_X11_odds_101    (S : jS) : Option (Int32 × jS) :=
  some (1, S)
def f_X11_odds_69   (x2 : Int64) (x4 : Int64) (S : jS) : Option (Int32 × jS) :=
  jcl (f_X11_commonDivisor x4 x2 S) (fun v2 S1 =>
  if 0 < (lg_cmp v2 0) then
    jdl x2 v2 (fun v3 =>
    jpl S1 0 11 v3 (fun S4 =>
    jdl x4 v2 (fun v5 =>
    jpl S4 0 12 v5 (fun S6 =>
    f_X11_odds_101    S6))))
  else
    f_X11_odds_101    S1)
def f_X11_odds_e   (x1 : Int32) (S : jS) : Option (Int32 × jS) :=
  if x1 < 0 then
    f_X11_odds_10    S
  else
    if 10 < x1 then
      f_X11_odds_10    S
    else
      jcl (f_X2_peacefulTenths_r22 (S.1 21 1) x1 S) (fun v2 S1 =>
      jcl (f_X10_living  S1) (fun v4 S3 =>
      lp_X11_odds_50  (f_X11_odds_69) v2 1 v4 S3))
def f_X11_odds (x1 : Int32) (S : jS) : Option (Int32 × jS) := f_X11_odds_e x1 S
def f_X12_streets_24    (S : jS) : Option (Int32 × jS) :=
  jcl (f_X12_bad (-2) S) (fun v2 S1 =>
  some (v2, S1))
def f_X12_streets_49  (g : Int32 → Int64 → Int32 → Int32 → Int32 → jS → Option (Int32 × jS)) (k93 : Int32 → Int64 → Int32 → Int32 → jS → Option (Int32 × jS)) (x2 : Int32) (x3 : Int64) (x5 : Int32) (x6 : Int32) (x7 : Int32) (S : jS) : Option (Int32 × jS) :=
  if x7 < 8 then
    jrl ((x3 * 1103515245) + 12345) 2147483648 (fun v1 =>
    jdl v1 65536 (fun v2 =>
    jrl v2 301 (fun v3 =>
    jst S 47 x7 8 ((v3 : Int64).toInt32) (fun S4 =>
    g x2 v1 x5 x6 (x7 + 1) S4))))
  else
    k93 x2 x3 x5 x6 S
def lp_X12_streets_49  (k93 : Int32 → Int64 → Int32 → Int32 → jS → Option (Int32 × jS)) (x2 : Int32) (x3 : Int64) (x5 : Int32) (x6 : Int32) (x7 : Int32) (S : jS) : Option (Int32 × jS) := jloop (α := Int32 × Int64 × Int32 × Int32 × Int32 × jS) (fun g q => f_X12_streets_49  (fun x2 x3 x5 x6 x7 S => g (x2, x3, x5, x6, x7, S)) k93 q.1 q.2.1 q.2.2.1 q.2.2.2.1 q.2.2.2.2.1 q.2.2.2.2.2) jN (x2, x3, x5, x6, x7, S)
def f_X12_streets_107  (g : Int32 → Int64 → Int32 → Int32 → jS → Option (Int32 × jS)) (k116 : Int32 → jS → Option (Int32 × jS)) (a0 : Int32) (a1 : Int32) (x2 : Int32) (x3 : Int64) (x6 : Int32) (S : jS) : Option (Int32 × jS) :=
  g x2 x3 (a1 + a0) (x6 + 1) S
def f_X12_streets_93  (g : Int32 → Int64 → Int32 → Int32 → jS → Option (Int32 × jS)) (k116 : Int32 → jS → Option (Int32 × jS)) (x2 : Int32) (x3 : Int64) (x5 : Int32) (x6 : Int32) (S : jS) : Option (Int32 × jS) :=
  jcl (f_X12_manyQuarrels  S) (fun v2 S1 =>
  if v2 = 0 then
    f_X12_streets_107  g k116 1 x5 x2 x3 x6 S1
  else
    f_X12_streets_107  g k116 0 x5 x2 x3 x6 S1)
def f_X12_streets_40  (g : Int32 → Int64 → Int32 → Int32 → jS → Option (Int32 × jS)) (k116 : Int32 → jS → Option (Int32 × jS)) (x2 : Int32) (x3 : Int64) (x5 : Int32) (x6 : Int32) (S : jS) : Option (Int32 × jS) :=
  if x6 < x2 then
    lp_X12_streets_49  (f_X12_streets_93  g k116) x2 x3 x5 x6 0 S
  else
    k116 x5 S
def lp_X12_streets_40  (k116 : Int32 → jS → Option (Int32 × jS)) (x2 : Int32) (x3 : Int64) (x5 : Int32) (x6 : Int32) (S : jS) : Option (Int32 × jS) := jloop (α := Int32 × Int64 × Int32 × Int32 × jS) (fun g q => f_X12_streets_40  (fun x2 x3 x5 x6 S => g (x2, x3, x5, x6, S)) k116 q.1 q.2.1 q.2.2.1 q.2.2.2.1 q.2.2.2.2) jN (x2, x3, x5, x6, S)
def f_X12_streets_116   (x5 : Int32) (S : jS) : Option (Int32 × jS) :=
  some (x5, S)
def f_X12_streets_e   (x1 : Int32) (x2 : Int32) (S : jS) : Option (Int32 × jS) :=
  jcl (f_X12_in x1.toInt64 0 999999 S) (fun v2 S1 =>
  if v2 = 0 then
    f_X12_streets_24    S1
  else
    jcl (f_X12_in x2.toInt64 0 30 S1) (fun v4 S3 =>
    if v4 = 0 then
      f_X12_streets_24    S3
    else
      lp_X12_streets_40  (f_X12_streets_116) x2 x1.toInt64 0 0 S3))
def f_X12_streets (x1 : Int32) (x2 : Int32) (S : jS) : Option (Int32 × jS) := f_X12_streets_e x1 x2 S
def f_X11_fillTrial_5  (g : Int64 → Int32 → jS → Option (Int64 × jS)) (k49 : Int64 → jS → Option (Int64 × jS)) (x3 : Int64) (x5 : Int32) (S : jS) : Option (Int64 × jS) :=
  if x5 < 8 then
    jrl ((x3 * 1103515245) + 12345) 2147483648 (fun v1 =>
    jdl v1 65536 (fun v2 =>
    jrl v2 301 (fun v3 =>
    jst S 38 x5 8 ((v3 : Int64).toInt32) (fun S4 =>
    g v1 (x5 + 1) S4))))
  else
    k49 x3 S
def lp_X11_fillTrial_5  (k49 : Int64 → jS → Option (Int64 × jS)) (x3 : Int64) (x5 : Int32) (S : jS) : Option (Int64 × jS) := jloop (α := Int64 × Int32 × jS) (fun g q => f_X11_fillTrial_5  (fun x3 x5 S => g (x3, x5, S)) k49 q.1 q.2.1 q.2.2) jN (x3, x5, S)
def f_X11_fillTrial_49   (x3 : Int64) (S : jS) : Option (Int64 × jS) :=
  some (x3, S)
def f_X11_fillTrial_e   (x1 : Int64) (S : jS) : Option (Int64 × jS) :=
  lp_X11_fillTrial_5  (f_X11_fillTrial_49) x1 0 S
def f_X11_fillTrial (x1 : Int64) (S : jS) : Option (Int64 × jS) := f_X11_fillTrial_e x1 S
def f_X11_streets_21    (S : jS) : Option (Int32 × jS) :=
  jcl (f_X11_refuseBad  S) (fun v2 S1 =>
  some (v2, S1))
def f_X11_streets_71  (g : Int32 → Int64 → Int32 → Int32 → jS → Option (Int32 × jS)) (k77 : Int32 → jS → Option (Int32 × jS)) (x2 : Int32) (x3 : Int64) (x5 : Int32) (x6 : Int32) (S : jS) : Option (Int32 × jS) :=
  g x2 x3 x5 (x6 + 1) S
def f_X11_streets_35  (g : Int32 → Int64 → Int32 → Int32 → jS → Option (Int32 × jS)) (k77 : Int32 → jS → Option (Int32 × jS)) (x2 : Int32) (x3 : Int64) (x5 : Int32) (x6 : Int32) (S : jS) : Option (Int32 × jS) :=
  if x6 < x2 then
    jcl (f_X11_fillTrial x3 S) (fun v2 S1 =>
    jcl (f_X2_quarrelling_r38 (S1.1 21 1) S1) (fun v4 S3 =>
    if v4 = 0 then
      f_X11_streets_71  g k77 x2 v2 (x5 + 1) x6 S3
    else
      f_X11_streets_71  g k77 x2 v2 x5 x6 S3))
  else
    k77 x5 S
def lp_X11_streets_35  (k77 : Int32 → jS → Option (Int32 × jS)) (x2 : Int32) (x3 : Int64) (x5 : Int32) (x6 : Int32) (S : jS) : Option (Int32 × jS) := jloop (α := Int32 × Int64 × Int32 × Int32 × jS) (fun g q => f_X11_streets_35  (fun x2 x3 x5 x6 S => g (x2, x3, x5, x6, S)) k77 q.1 q.2.1 q.2.2.1 q.2.2.2.1 q.2.2.2.2) jN (x2, x3, x5, x6, S)
def f_X11_streets_77   (x5 : Int32) (S : jS) : Option (Int32 × jS) :=
  some (x5, S)
def f_X11_streets_e   (x1 : Int32) (x2 : Int32) (S : jS) : Option (Int32 × jS) :=
  if x1 < 0 then
    f_X11_streets_21    S
  else
    if 999999 < x1 then
      f_X11_streets_21    S
    else
      if x2 < 0 then
        f_X11_streets_21    S
      else
        if 30 < x2 then
          f_X11_streets_21    S
        else
          lp_X11_streets_35  (f_X11_streets_77) x2 x1.toInt64 0 0 S
def f_X11_streets (x1 : Int32) (x2 : Int32) (S : jS) : Option (Int32 × jS) := f_X11_streets_e x1 x2 S
def f_X12_part_30   (a0 : Int64) (S : jS) : Option (Int64 × jS) :=
  some (a0, S)
def f_X12_part_e   (x1 : Int32) (S : jS) : Option (Int64 × jS) :=
  if x1 = 0 then
    f_X12_part_30   (S.2 41 5) S
  else
    if x1 = 1 then
      f_X12_part_30   (S.2 41 6) S
    else
      jcl (f_X12_bad (-2) S) (fun v2 S1 =>
      f_X12_part_30   v2.toInt64 S1)
def f_X12_part (x1 : Int32) (S : jS) : Option (Int64 × jS) := f_X12_part_e x1 S
def f_X11_part_28   (a0 : Int64) (S : jS) : Option (Int64 × jS) :=
  some (a0, S)
def f_X11_part_e   (x1 : Int32) (S : jS) : Option (Int64 × jS) :=
  jcl (f_X11_isBit x1 S) (fun v2 S1 =>
  if v2 = 0 then
    jcl (f_X11_refuseBad  S1) (fun v4 S3 =>
    some (v4.toInt64, S3))
  else
    if x1 = 0 then
      f_X11_part_28   (S1.2 0 11) S1
    else
      f_X11_part_28   (S1.2 0 12) S1)
def f_X11_part (x1 : Int32) (S : jS) : Option (Int64 × jS) := f_X11_part_e x1 S
def f_X12_image_19  (g : Int32 → Int32 → jS → Option (Int32 × jS)) (k50 : Int32 → jS → Option (Int32 × jS)) (x1 : Int32) (x2 : Int32) (S : jS) : Option (Int32 × jS) :=
  if x2 < 149 then
    jld S 42 x2 149 (fun v1 =>
    jst S 43 ((149 * x1) + x2) 298 v1 (fun S2 =>
    g x1 (x2 + 1) S2))
  else
    k50 x1 S
def lp_X12_image_19  (k50 : Int32 → jS → Option (Int32 × jS)) (x1 : Int32) (x2 : Int32) (S : jS) : Option (Int32 × jS) := jloop (α := Int32 × Int32 × jS) (fun g q => f_X12_image_19  (fun x1 x2 S => g (x1, x2, S)) k50 q.1 q.2.1 q.2.2) jN (x1, x2, S)
def f_X12_image_50   (x1 : Int32) (S : jS) : Option (Int32 × jS) :=
  jst S 44 x1 2 (vp_nar .boolean 1) (fun S1 =>
  some (1, S1))
def f_X12_image_e   (x1 : Int32) (S : jS) : Option (Int32 × jS) :=
  jcl (f_X12_in x1.toInt64 0 1 S) (fun v2 S1 =>
  if v2 = 0 then
    jcl (f_X12_bad (-2) S1) (fun v4 S3 =>
    some (v4, S3))
  else
    lp_X12_image_19  (f_X12_image_50) x1 0 S1)
def f_X12_image (x1 : Int32) (S : jS) : Option (Int32 × jS) := f_X12_image_e x1 S
def f_X11_imageAt_19    (S : jS) : Option (Nat × jS) :=
  some (0, S)
def f_X11_imageAt_18    (S : jS) : Option (Nat × jS) :=
  f_X11_imageAt_19    S
def f_X11_imageAt_19v1    (S : jS) : Option (Nat × jS) :=
  some (27, S)
def f_X11_imageAt_19v2    (S : jS) : Option (Nat × jS) :=
  some (32, S)
def f_X11_imageAt_e   (x1 : Int32) (S : jS) : Option (Nat × jS) :=
  if x1 < 0 then
    f_X11_imageAt_18    S
  else
    if x1 < 2 then
      if x1 = 0 then
        f_X11_imageAt_19v1    S
      else
      if x1 = 1 then
        f_X11_imageAt_19v2    S
      else
      none
    else
      f_X11_imageAt_18    S
def f_X11_imageAt (x1 : Int32) (S : jS) : Option (Nat × jS) := f_X11_imageAt_e x1 S
def f_X10_copyFrom_r27_r21_e    (S : jS) : Option (jS) :=
  jcp S 22 8 0 28 8 0 8 (fun S1 =>
  jcp S1 23 24 0 29 24 0 24 (fun S2 =>
  jcp S2 24 24 0 30 24 0 24 (fun S3 =>
  jcp S3 25 72 0 31 72 0 72 (fun S4 =>
  jpt S4 27 1 (S4.1 21 1) (fun S5 =>
  jpt S5 27 3 (S5.1 21 3) (fun S6 =>
  jpt S6 27 5 (S6.1 21 5) (fun S7 =>
  jpt S7 27 6 (S7.1 21 6) (fun S8 =>
  some S8))))))))
def f_X10_copyFrom_r27_r21  (S : jS) : Option (jS) := f_X10_copyFrom_r27_r21_e  S
def f_X10_copyFrom_r32_r21_e    (S : jS) : Option (jS) :=
  jcp S 22 8 0 33 8 0 8 (fun S1 =>
  jcp S1 23 24 0 34 24 0 24 (fun S2 =>
  jcp S2 24 24 0 35 24 0 24 (fun S3 =>
  jcp S3 25 72 0 36 72 0 72 (fun S4 =>
  jpt S4 32 1 (S4.1 21 1) (fun S5 =>
  jpt S5 32 3 (S5.1 21 3) (fun S6 =>
  jpt S6 32 5 (S6.1 21 5) (fun S7 =>
  jpt S7 32 6 (S7.1 21 6) (fun S8 =>
  some S8))))))))
def f_X10_copyFrom_r32_r21  (S : jS) : Option (jS) := f_X10_copyFrom_r32_r21_e  S
def f_X11_image_e   (x1 : Int32) (S : jS) : Option (Int32 × jS) :=
  jcl (f_X11_imageAt x1 S) (fun v2 S1 =>
  if v2 = 27 then
    jcv (f_X10_copyFrom_r27_r21  S1) (fun S3 =>
    jst S3 37 x1 2 (vp_nar .boolean 1) (fun S4 =>
    some (1, S4)))
  else
  if v2 = 32 then
    jcv (f_X10_copyFrom_r32_r21  S1) (fun S5 =>
    jst S5 37 x1 2 (vp_nar .boolean 1) (fun S6 =>
    some (1, S6)))
  else
  if v2 = 0 then
    jcl (f_X11_refuseBad  S1) (fun v8 S7 =>
    some (v8, S7))
  else
  none)
def f_X11_image (x1 : Int32) (S : jS) : Option (Int32 × jS) := f_X11_image_e x1 S
def f_X12_from_33  (g : Int32 → Int32 → jS → Option (Int32 × jS)) (k64 : jS → Option (Int32 × jS)) (x1 : Int32) (x2 : Int32) (S : jS) : Option (Int32 × jS) :=
  if x2 < 149 then
    jld S 43 ((149 * x1) + x2) 298 (fun v1 =>
    jst S 42 x2 149 v1 (fun S2 =>
    g x1 (x2 + 1) S2))
  else
    k64  S
def lp_X12_from_33  (k64 : jS → Option (Int32 × jS)) (x1 : Int32) (x2 : Int32) (S : jS) : Option (Int32 × jS) := jloop (α := Int32 × Int32 × jS) (fun g q => f_X12_from_33  (fun x1 x2 S => g (x1, x2, S)) k64 q.1 q.2.1 q.2.2) jN (x1, x2, S)
def f_X12_from_64    (S : jS) : Option (Int32 × jS) :=
  some (1, S)
def f_X12_from_e   (x1 : Int32) (S : jS) : Option (Int32 × jS) :=
  jcl (f_X12_in x1.toInt64 0 1 S) (fun v2 S1 =>
  if v2 = 0 then
    jcl (f_X12_bad (-2) S1) (fun v7 S6 =>
    some (v7, S6))
  else
    jld S1 44 x1 2 (fun v3 =>
    if v3 = 0 then
      jcl (f_X12_no  S1) (fun v5 S4 =>
      some (v5, S4))
    else
      lp_X12_from_33  (f_X12_from_64) x1 0 S1))
def f_X12_from (x1 : Int32) (S : jS) : Option (Int32 × jS) := f_X12_from_e x1 S
def f_X10_copyFrom_r27_e    (S : jS) : Option (jS) :=
  jcp S 28 8 0 22 8 0 8 (fun S1 =>
  jcp S1 29 24 0 23 24 0 24 (fun S2 =>
  jcp S2 30 24 0 24 24 0 24 (fun S3 =>
  jcp S3 31 72 0 25 72 0 72 (fun S4 =>
  jpt S4 21 1 (S4.1 27 1) (fun S5 =>
  jpt S5 21 3 (S5.1 27 3) (fun S6 =>
  jpt S6 21 5 (S6.1 27 5) (fun S7 =>
  jpt S7 21 6 (S7.1 27 6) (fun S8 =>
  some S8))))))))
def f_X10_copyFrom_r27  (S : jS) : Option (jS) := f_X10_copyFrom_r27_e  S
def f_X10_copyFrom_r32_e    (S : jS) : Option (jS) :=
  jcp S 33 8 0 22 8 0 8 (fun S1 =>
  jcp S1 34 24 0 23 24 0 24 (fun S2 =>
  jcp S2 35 24 0 24 24 0 24 (fun S3 =>
  jcp S3 36 72 0 25 72 0 72 (fun S4 =>
  jpt S4 21 1 (S4.1 32 1) (fun S5 =>
  jpt S5 21 3 (S5.1 32 3) (fun S6 =>
  jpt S6 21 5 (S6.1 32 5) (fun S7 =>
  jpt S7 21 6 (S7.1 32 6) (fun S8 =>
  some S8))))))))
def f_X10_copyFrom_r32  (S : jS) : Option (jS) := f_X10_copyFrom_r32_e  S
def f_X11_from_e   (x1 : Int32) (S : jS) : Option (Int32 × jS) :=
  jcl (f_X11_imageAt x1 S) (fun v2 S1 =>
  if v2 = 27 then
    jld S1 37 x1 2 (fun v3 =>
    if v3 = 0 then
      jcl (f_X11_refuseNo  S1) (fun v6 S5 =>
      some (v6, S5))
    else
      jcv (f_X10_copyFrom_r27  S1) (fun S4 =>
      some (1, S4)))
  else
  if v2 = 32 then
    jld S1 37 x1 2 (fun v7 =>
    if v7 = 0 then
      jcl (f_X11_refuseNo  S1) (fun v10 S9 =>
      some (v10, S9))
    else
      jcv (f_X10_copyFrom_r32  S1) (fun S8 =>
      some (1, S8)))
  else
  if v2 = 0 then
    jcl (f_X11_refuseBad  S1) (fun v12 S11 =>
    some (v12, S11))
  else
  none)
def f_X11_from (x1 : Int32) (S : jS) : Option (Int32 × jS) := f_X11_from_e x1 S
def f_X12_status_26   (a0 : Int32) (S : jS) : Option (Int32 × jS) :=
  some (a0, S)
def f_X12_status_e   (x1 : Int32) (S : jS) : Option (Int32 × jS) :=
  jcl (f_X12_in x1.toInt64 0 2 S) (fun v2 S1 =>
  if v2 = 0 then
    jcl (f_X12_bad (-1) S1) (fun v4 S3 =>
    f_X12_status_26   v4 S3)
  else
    jld S1 45 x1 3 (fun v5 =>
    f_X12_status_26   v5 S1))
def f_X12_status (x1 : Int32) (S : jS) : Option (Int32 × jS) := f_X12_status_e x1 S
def f_X11_status_e   (x1 : Int32) (S : jS) : Option (Int32 × jS) :=
  if x1 = 0 then
    some ((S.1 0 13), S)
  else
  if x1 = 1 then
    some ((S.1 0 14), S)
  else
  if x1 = 2 then
    some ((S.1 0 15), S)
  else
    jpt S 0 13 ((S.1 0 13) + 1) (fun S1 =>
    some ((-1), S1))
def f_X11_status (x1 : Int32) (S : jS) : Option (Int32 × jS) := f_X11_status_e x1 S
def f_X12_counted_e   (x1 : Int32) (S : jS) : Option (Int32 × jS) :=
  if x1 = 0 then
    jcl (f_X12_lived  S) (fun v2 S1 =>
    jcl (f_X12_bits v2 S1) (fun v4 S3 =>
    some (v4, S3)))
  else
  if x1 = 1 then
    jcl (f_X12_law  S) (fun v6 S5 =>
    some (v6, S5))
  else
  if x1 = 2 then
    jld S 42 10 149 (fun v7 =>
    some (v7, S))
  else
  if x1 = 3 then
    jld S 42 11 149 (fun v8 =>
    some (v8, S))
  else
  if x1 = 4 then
    jld S 42 12 149 (fun v9 =>
    some (v9, S))
  else
    some ((S.1 41 18), S)
def f_X12_counted (x1 : Int32) (S : jS) : Option (Int32 × jS) := f_X12_counted_e x1 S
def f_X12_count_26   (a0 : Int32) (S : jS) : Option (Int32 × jS) :=
  some (a0, S)
def f_X12_count_e   (x1 : Int32) (S : jS) : Option (Int32 × jS) :=
  jcl (f_X12_in x1.toInt64 0 5 S) (fun v2 S1 =>
  if v2 = 0 then
    jcl (f_X12_bad (-2) S1) (fun v4 S3 =>
    f_X12_count_26   v4 S3)
  else
    jcl (f_X12_counted x1 S1) (fun v6 S5 =>
    f_X12_count_26   v6 S5))
def f_X12_count (x1 : Int32) (S : jS) : Option (Int32 × jS) := f_X12_count_e x1 S
def f_X11_tally_e   (x1 : Int32) (S : jS) : Option (Int32 × jS) :=
  if x1 = 0 then
    jcl (f_X10_living  S) (fun v2 S1 =>
    some (v2, S1))
  else
  if x1 = 1 then
    some ((S.1 21 1), S)
  else
  if x1 = 2 then
    some ((S.1 21 3), S)
  else
  if x1 = 3 then
    some ((S.1 21 5), S)
  else
  if x1 = 4 then
    some ((S.1 21 6), S)
  else
    some ((S.1 18 1), S)
def f_X11_tally (x1 : Int32) (S : jS) : Option (Int32 × jS) := f_X11_tally_e x1 S
def f_X11_count_9    (S : jS) : Option (Int32 × jS) :=
  jcl (f_X11_refuseBad  S) (fun v2 S1 =>
  some (v2, S1))
def f_X11_count_e   (x1 : Int32) (S : jS) : Option (Int32 × jS) :=
  if x1 < 0 then
    f_X11_count_9    S
  else
    if 5 < x1 then
      f_X11_count_9    S
    else
      jcl (f_X11_tally x1 S) (fun v2 S1 =>
      some (v2, S1))
def f_X11_count (x1 : Int32) (S : jS) : Option (Int32 × jS) := f_X11_count_e x1 S
def f_X12_digest_6  (g : Int64 → Int32 → jS → Option (Int64 × jS)) (k31 : Int64 → jS → Option (Int64 × jS)) (x1 : Int64) (x3 : Int32) (S : jS) : Option (Int64 × jS) :=
  if x3 < 6 then
    jcl (f_X12_counted x3 S) (fun v2 S1 =>
    g ((31 * x1) + v2.toInt64) (x3 + 1) S1)
  else
    k31 x1 S
def lp_X12_digest_6  (k31 : Int64 → jS → Option (Int64 × jS)) (x1 : Int64) (x3 : Int32) (S : jS) : Option (Int64 × jS) := jloop (α := Int64 × Int32 × jS) (fun g q => f_X12_digest_6  (fun x1 x3 S => g (x1, x3, S)) k31 q.1 q.2.1 q.2.2) jN (x1, x3, S)
def f_X12_digest_33  (g : Int64 → Int32 → jS → Option (Int64 × jS)) (k59 : Int64 → jS → Option (Int64 × jS)) (x1 : Int64) (x3 : Int32) (S : jS) : Option (Int64 × jS) :=
  if x3 < 8 then
    jld S 42 x3 149 (fun v1 =>
    g ((31 * x1) + v1.toInt64) (x3 + 1) S)
  else
    k59 x1 S
def lp_X12_digest_33  (k59 : Int64 → jS → Option (Int64 × jS)) (x1 : Int64) (x3 : Int32) (S : jS) : Option (Int64 × jS) := jloop (α := Int64 × Int32 × jS) (fun g q => f_X12_digest_33  (fun x1 x3 S => g (x1, x3, S)) k59 q.1 q.2.1 q.2.2) jN (x1, x3, S)
def f_X12_digest_61  (g : Int64 → Int32 → jS → Option (Int64 × jS)) (k145 : Int64 → jS → Option (Int64 × jS)) (x1 : Int64) (x3 : Int32) (S : jS) : Option (Int64 × jS) :=
  jld S 42 10 149 (fun v1 =>
  if x3 < v1 then
    jld S 42 (13 + (4 * x3)) 149 (fun v2 =>
    jld S 42 ((13 + (4 * x3)) + 1) 149 (fun v3 =>
    jld S 42 ((13 + (4 * x3)) + 2) 149 (fun v4 =>
    jld S 42 ((13 + (4 * x3)) + 3) 149 (fun v5 =>
    g (((31 * ((31 * ((31 * x1) + v2.toInt64)) + v3.toInt64)) + ((10 * v4) : Int32).toInt64) + v5.toInt64) (x3 + 1) S))))
  else
    k145 x1 S)
def lp_X12_digest_61  (k145 : Int64 → jS → Option (Int64 × jS)) (x1 : Int64) (x3 : Int32) (S : jS) : Option (Int64 × jS) := jloop (α := Int64 × Int32 × jS) (fun g q => f_X12_digest_61  (fun x1 x3 S => g (x1, x3, S)) k145 q.1 q.2.1 q.2.2) jN (x1, x3, S)
def f_X12_digest_147  (g : Int64 → Int32 → jS → Option (Int64 × jS)) (k183 : Int64 → jS → Option (Int64 × jS)) (x1 : Int64) (x3 : Int32) (S : jS) : Option (Int64 × jS) :=
  jld S 42 11 149 (fun v1 =>
  if x3 < (3 * v1) then
    jld S 42 (45 + x3) 149 (fun v2 =>
    g ((31 * x1) + v2.toInt64) (x3 + 1) S)
  else
    k183 x1 S)
def lp_X12_digest_147  (k183 : Int64 → jS → Option (Int64 × jS)) (x1 : Int64) (x3 : Int32) (S : jS) : Option (Int64 × jS) := jloop (α := Int64 × Int32 × jS) (fun g q => f_X12_digest_147  (fun x1 x3 S => g (x1, x3, S)) k183 q.1 q.2.1 q.2.2) jN (x1, x3, S)
def f_X12_digest_183   (x1 : Int64) (S : jS) : Option (Int64 × jS) :=
  some (((31 * ((31 * x1) + (S.2 41 5))) + (S.2 41 6)), S)
def f_X12_digest_145   (x1 : Int64) (S : jS) : Option (Int64 × jS) :=
  lp_X12_digest_147  (f_X12_digest_183) x1 0 S
def f_X12_digest_59   (x1 : Int64) (S : jS) : Option (Int64 × jS) :=
  lp_X12_digest_61  (f_X12_digest_145) x1 0 S
def f_X12_digest_31   (x1 : Int64) (S : jS) : Option (Int64 × jS) :=
  lp_X12_digest_33  (f_X12_digest_59) x1 0 S
def f_X12_digest_e    (S : jS) : Option (Int64 × jS) :=
  lp_X12_digest_6  (f_X12_digest_31) 1013 0 S
def f_X12_digest  (S : jS) : Option (Int64 × jS) := f_X12_digest_e  S
def f_X11_fold_r22_6  (g : Int32 → Int64 → Int32 → jS → Option (Int64 × jS)) (k39 : Int64 → jS → Option (Int64 × jS)) (x3 : Int32) (x4 : Int64) (x6 : Int32) (S : jS) : Option (Int64 × jS) :=
  if x6 < x3 then
    if x6 < 8 then
      jld S 22 x6 8 (fun v1 =>
      g x3 ((31 * x4) + v1.toInt64) (x6 + 1) S)
    else
      k39 x4 S
  else
    k39 x4 S
def lp_X11_fold_r22_6  (k39 : Int64 → jS → Option (Int64 × jS)) (x3 : Int32) (x4 : Int64) (x6 : Int32) (S : jS) : Option (Int64 × jS) := jloop (α := Int32 × Int64 × Int32 × jS) (fun g q => f_X11_fold_r22_6  (fun x3 x4 x6 S => g (x3, x4, x6, S)) k39 q.1 q.2.1 q.2.2.1 q.2.2.2) jN (x3, x4, x6, S)
def f_X11_fold_r22_39   (x4 : Int64) (S : jS) : Option (Int64 × jS) :=
  some (x4, S)
def f_X11_fold_r22_e   (x0 : Int64) (x3 : Int32) (S : jS) : Option (Int64 × jS) :=
  lp_X11_fold_r22_6  (f_X11_fold_r22_39) x3 x0 0 S
def f_X11_fold_r22 (x0 : Int64) (x3 : Int32) (S : jS) : Option (Int64 × jS) := f_X11_fold_r22_e x0 x3 S
def f_X11_fold_r23_6  (g : Int32 → Int64 → Int32 → jS → Option (Int64 × jS)) (k39 : Int64 → jS → Option (Int64 × jS)) (x3 : Int32) (x4 : Int64) (x6 : Int32) (S : jS) : Option (Int64 × jS) :=
  if x6 < x3 then
    if x6 < 24 then
      jld S 23 x6 24 (fun v1 =>
      g x3 ((31 * x4) + v1.toInt64) (x6 + 1) S)
    else
      k39 x4 S
  else
    k39 x4 S
def lp_X11_fold_r23_6  (k39 : Int64 → jS → Option (Int64 × jS)) (x3 : Int32) (x4 : Int64) (x6 : Int32) (S : jS) : Option (Int64 × jS) := jloop (α := Int32 × Int64 × Int32 × jS) (fun g q => f_X11_fold_r23_6  (fun x3 x4 x6 S => g (x3, x4, x6, S)) k39 q.1 q.2.1 q.2.2.1 q.2.2.2) jN (x3, x4, x6, S)
def f_X11_fold_r23_39   (x4 : Int64) (S : jS) : Option (Int64 × jS) :=
  some (x4, S)
def f_X11_fold_r23_e   (x0 : Int64) (x3 : Int32) (S : jS) : Option (Int64 × jS) :=
  lp_X11_fold_r23_6  (f_X11_fold_r23_39) x3 x0 0 S
def f_X11_fold_r23 (x0 : Int64) (x3 : Int32) (S : jS) : Option (Int64 × jS) := f_X11_fold_r23_e x0 x3 S
def f_X11_fold_r24_6  (g : Int32 → Int64 → Int32 → jS → Option (Int64 × jS)) (k39 : Int64 → jS → Option (Int64 × jS)) (x3 : Int32) (x4 : Int64) (x6 : Int32) (S : jS) : Option (Int64 × jS) :=
  if x6 < x3 then
    if x6 < 24 then
      jld S 24 x6 24 (fun v1 =>
      g x3 ((31 * x4) + v1.toInt64) (x6 + 1) S)
    else
      k39 x4 S
  else
    k39 x4 S
def lp_X11_fold_r24_6  (k39 : Int64 → jS → Option (Int64 × jS)) (x3 : Int32) (x4 : Int64) (x6 : Int32) (S : jS) : Option (Int64 × jS) := jloop (α := Int32 × Int64 × Int32 × jS) (fun g q => f_X11_fold_r24_6  (fun x3 x4 x6 S => g (x3, x4, x6, S)) k39 q.1 q.2.1 q.2.2.1 q.2.2.2) jN (x3, x4, x6, S)
def f_X11_fold_r24_39   (x4 : Int64) (S : jS) : Option (Int64 × jS) :=
  some (x4, S)
def f_X11_fold_r24_e   (x0 : Int64) (x3 : Int32) (S : jS) : Option (Int64 × jS) :=
  lp_X11_fold_r24_6  (f_X11_fold_r24_39) x3 x0 0 S
def f_X11_fold_r24 (x0 : Int64) (x3 : Int32) (S : jS) : Option (Int64 × jS) := f_X11_fold_r24_e x0 x3 S
def f_X11_digest_6  (g : Int64 → Int32 → jS → Option (Int64 × jS)) (k30 : Int64 → jS → Option (Int64 × jS)) (x1 : Int64) (x3 : Int32) (S : jS) : Option (Int64 × jS) :=
  if 5 < x3 then
    k30 x1 S
  else
    jcl (f_X11_tally x3 S) (fun v2 S1 =>
    g ((31 * x1) + v2.toInt64) (x3 + 1) S1)
def lp_X11_digest_6  (k30 : Int64 → jS → Option (Int64 × jS)) (x1 : Int64) (x3 : Int32) (S : jS) : Option (Int64 × jS) := jloop (α := Int64 × Int32 × jS) (fun g q => f_X11_digest_6  (fun x1 x3 S => g (x1, x3, S)) k30 q.1 q.2.1 q.2.2) jN (x1, x3, S)
def f_X11_digest_30   (x1 : Int64) (S : jS) : Option (Int64 × jS) :=
  jcl (f_X11_fold_r22 x1 8 S) (fun v2 S1 =>
  jcl (f_X11_fold_r23 v2 (3 * (S1.1 21 3)) S1) (fun v4 S3 =>
  jcl (f_X11_fold_r24 v4 (3 * (S3.1 21 5)) S3) (fun v6 S5 =>
  some (((31 * ((31 * v6) + (S5.2 0 11))) + (S5.2 0 12)), S5))))
def f_X11_digest_e    (S : jS) : Option (Int64 × jS) :=
  lp_X11_digest_6  (f_X11_digest_30) 1013 0 S
def f_X11_digest  (S : jS) : Option (Int64 × jS) := f_X11_digest_e  S
def f_L_law_1015 (L : Nat) (sc : Nat → Int32) (g : Int32 → jS → Option (Unit)) (k219 : jS → Option (Unit)) (k252 : jS → Option (Unit)) (k285 : jS → Option (Unit)) (k308 : jS → Option (Unit)) (k341 : jS → Option (Unit)) (k354 : jS → Option (Unit)) (k377 : jS → Option (Unit)) (k390 : jS → Option (Unit)) (k403 : jS → Option (Unit)) (k436 : jS → Option (Unit)) (k469 : jS → Option (Unit)) (k492 : jS → Option (Unit)) (k505 : jS → Option (Unit)) (k528 : jS → Option (Unit)) (k541 : jS → Option (Unit)) (k554 : jS → Option (Unit)) (k577 : jS → Option (Unit)) (k610 : jS → Option (Unit)) (k623 : jS → Option (Unit)) (k646 : jS → Option (Unit)) (k679 : jS → Option (Unit)) (k702 : jS → Option (Unit)) (k715 : jS → Option (Unit)) (k758 : jS → Option (Unit)) (k781 : jS → Option (Unit)) (k804 : jS → Option (Unit)) (k827 : jS → Option (Unit)) (k850 : jS → Option (Unit)) (k883 : jS → Option (Unit)) (k907 : jS → Option (Unit)) (k930 : jS → Option (Unit)) (k953 : jS → Option (Unit)) (k976 : jS → Option (Unit)) (k999 : jS → Option (Unit)) (k1013 : jS → Option (Unit)) (k1021 : jS → Option (Unit)) (x3 : Int32) (S : jS) : Option (Unit) :=
  g (x3 + 4) S
def f_L_law_18 (L : Nat) (sc : Nat → Int32) (g : Int32 → jS → Option (Unit)) (k219 : jS → Option (Unit)) (k252 : jS → Option (Unit)) (k285 : jS → Option (Unit)) (k308 : jS → Option (Unit)) (k341 : jS → Option (Unit)) (k354 : jS → Option (Unit)) (k377 : jS → Option (Unit)) (k390 : jS → Option (Unit)) (k403 : jS → Option (Unit)) (k436 : jS → Option (Unit)) (k469 : jS → Option (Unit)) (k492 : jS → Option (Unit)) (k505 : jS → Option (Unit)) (k528 : jS → Option (Unit)) (k541 : jS → Option (Unit)) (k554 : jS → Option (Unit)) (k577 : jS → Option (Unit)) (k610 : jS → Option (Unit)) (k623 : jS → Option (Unit)) (k646 : jS → Option (Unit)) (k679 : jS → Option (Unit)) (k702 : jS → Option (Unit)) (k715 : jS → Option (Unit)) (k758 : jS → Option (Unit)) (k781 : jS → Option (Unit)) (k804 : jS → Option (Unit)) (k827 : jS → Option (Unit)) (k850 : jS → Option (Unit)) (k883 : jS → Option (Unit)) (k907 : jS → Option (Unit)) (k930 : jS → Option (Unit)) (k953 : jS → Option (Unit)) (k976 : jS → Option (Unit)) (k999 : jS → Option (Unit)) (k1013 : jS → Option (Unit)) (k1021 : jS → Option (Unit)) (x3 : Int32) (S : jS) : Option (Unit) :=
  if ((Int32.ofNat L) - 4) < x3 then
    k1021  S
  else
    jlk sc x3 L (fun v1 =>
    if (v1 &&& 63) = 0 then
      jlk sc (x3 + 1) L (fun v2 =>
      jlk sc (x3 + 2) L (fun v3 =>
      jcl (f_X11_street v2 v3 S) (fun v5 S4 =>
      jlk sc (x3 + 1) L (fun v6 =>
      jlk sc (x3 + 2) L (fun v7 =>
      jcl (f_X12_street v6 v7 S4) (fun v9 S8 =>
      if v5 = v9 then
        f_L_law_1015 L sc g k219 k252 k285 k308 k341 k354 k377 k390 k403 k436 k469 k492 k505 k528 k541 k554 k577 k610 k623 k646 k679 k702 k715 k758 k781 k804 k827 k850 k883 k907 k930 k953 k976 k999 k1013 k1021 x3 S8
      else
        k219  S8))))))
    else
    if (v1 &&& 63) = 1 then
      jlk sc (x3 + 1) L (fun v10 =>
      jlk sc (x3 + 2) L (fun v11 =>
      jcl (f_X11_rule v10 v11 S) (fun v13 S12 =>
      jlk sc (x3 + 1) L (fun v14 =>
      jlk sc (x3 + 2) L (fun v15 =>
      jcl (f_X12_rule v14 v15 S12) (fun v17 S16 =>
      if v13 = v17 then
        f_L_law_1015 L sc g k219 k252 k285 k308 k341 k354 k377 k390 k403 k436 k469 k492 k505 k528 k541 k554 k577 k610 k623 k646 k679 k702 k715 k758 k781 k804 k827 k850 k883 k907 k930 k953 k976 k999 k1013 k1021 x3 S16
      else
        k252  S16))))))
    else
    if (v1 &&& 63) = 2 then
      jlk sc (x3 + 1) L (fun v18 =>
      jlk sc (x3 + 2) L (fun v19 =>
      jcl (f_X11_house v18 v19 S) (fun v21 S20 =>
      jlk sc (x3 + 1) L (fun v22 =>
      jlk sc (x3 + 2) L (fun v23 =>
      jcl (f_X12_house v22 v23 S20) (fun v25 S24 =>
      if v21 = v25 then
        f_L_law_1015 L sc g k219 k252 k285 k308 k341 k354 k377 k390 k403 k436 k469 k492 k505 k528 k541 k554 k577 k610 k623 k646 k679 k702 k715 k758 k781 k804 k827 k850 k883 k907 k930 k953 k976 k999 k1013 k1021 x3 S24
      else
        k285  S24))))))
    else
    if (v1 &&& 63) = 3 then
      jlk sc (x3 + 1) L (fun v26 =>
      jcl (f_X11_birthday v26 S) (fun v28 S27 =>
      jlk sc (x3 + 1) L (fun v29 =>
      jcl (f_X12_birthday v29 S27) (fun v31 S30 =>
      if v28 = v31 then
        f_L_law_1015 L sc g k219 k252 k285 k308 k341 k354 k377 k390 k403 k436 k469 k492 k505 k528 k541 k554 k577 k610 k623 k646 k679 k702 k715 k758 k781 k804 k827 k850 k883 k907 k930 k953 k976 k999 k1013 k1021 x3 S30
      else
        k308  S30))))
    else
    if (v1 &&& 63) = 4 then
      jlk sc (x3 + 1) L (fun v32 =>
      jlk sc (x3 + 2) L (fun v33 =>
      jcl (f_X11_swap v32 v33 S) (fun v35 S34 =>
      jlk sc (x3 + 1) L (fun v36 =>
      jlk sc (x3 + 2) L (fun v37 =>
      jcl (f_X12_swap v36 v37 S34) (fun v39 S38 =>
      if v35 = v39 then
        f_L_law_1015 L sc g k219 k252 k285 k308 k341 k354 k377 k390 k403 k436 k469 k492 k505 k528 k541 k554 k577 k610 k623 k646 k679 k702 k715 k758 k781 k804 k827 k850 k883 k907 k930 k953 k976 k999 k1013 k1021 x3 S38
      else
        k341  S38))))))
    else
    if (v1 &&& 63) = 5 then
      jcl (f_X11_undo  S) (fun v41 S40 =>
      jcl (f_X12_undo  S40) (fun v43 S42 =>
      if v41 = v43 then
        f_L_law_1015 L sc g k219 k252 k285 k308 k341 k354 k377 k390 k403 k436 k469 k492 k505 k528 k541 k554 k577 k610 k623 k646 k679 k702 k715 k758 k781 k804 k827 k850 k883 k907 k930 k953 k976 k999 k1013 k1021 x3 S42
      else
        k354  S42))
    else
    if (v1 &&& 63) = 6 then
      jlk sc (x3 + 1) L (fun v44 =>
      jcl (f_X11_type v44 S) (fun v46 S45 =>
      jlk sc (x3 + 1) L (fun v47 =>
      jcl (f_X12_type v47 S45) (fun v49 S48 =>
      if v46 = v49 then
        f_L_law_1015 L sc g k219 k252 k285 k308 k341 k354 k377 k390 k403 k436 k469 k492 k505 k528 k541 k554 k577 k610 k623 k646 k679 k702 k715 k758 k781 k804 k827 k850 k883 k907 k930 k953 k976 k999 k1013 k1021 x3 S48
      else
        k377  S48))))
    else
    if (v1 &&& 63) = 7 then
      jcl (f_X11_clear  S) (fun v51 S50 =>
      jcl (f_X12_clear  S50) (fun v53 S52 =>
      if v51 = v53 then
        f_L_law_1015 L sc g k219 k252 k285 k308 k341 k354 k377 k390 k403 k436 k469 k492 k505 k528 k541 k554 k577 k610 k623 k646 k679 k702 k715 k758 k781 k804 k827 k850 k883 k907 k930 k953 k976 k999 k1013 k1021 x3 S52
      else
        k390  S52))
    else
    if (v1 &&& 63) = 8 then
      jcl (f_X11_read  S) (fun v55 S54 =>
      jcl (f_X12_read  S54) (fun v57 S56 =>
      if v55 = v57 then
        f_L_law_1015 L sc g k219 k252 k285 k308 k341 k354 k377 k390 k403 k436 k469 k492 k505 k528 k541 k554 k577 k610 k623 k646 k679 k702 k715 k758 k781 k804 k827 k850 k883 k907 k930 k953 k976 k999 k1013 k1021 x3 S56
      else
        k403  S56))
    else
    if (v1 &&& 63) = 9 then
      jlk sc (x3 + 1) L (fun v58 =>
      jlk sc (x3 + 2) L (fun v59 =>
      jcl (f_X11_of v58 v59 S) (fun v61 S60 =>
      jlk sc (x3 + 1) L (fun v62 =>
      jlk sc (x3 + 2) L (fun v63 =>
      jcl (f_X12_of v62 v63 S60) (fun v65 S64 =>
      if v61 = v65 then
        f_L_law_1015 L sc g k219 k252 k285 k308 k341 k354 k377 k390 k403 k436 k469 k492 k505 k528 k541 k554 k577 k610 k623 k646 k679 k702 k715 k758 k781 k804 k827 k850 k883 k907 k930 k953 k976 k999 k1013 k1021 x3 S64
      else
        k436  S64))))))
    else
    if (v1 &&& 63) = 10 then
      jlk sc (x3 + 1) L (fun v66 =>
      jlk sc (x3 + 2) L (fun v67 =>
      jcl (f_X11_may v66 v67 S) (fun v69 S68 =>
      jlk sc (x3 + 1) L (fun v70 =>
      jlk sc (x3 + 2) L (fun v71 =>
      jcl (f_X12_may v70 v71 S68) (fun v73 S72 =>
      if v69 = v73 then
        f_L_law_1015 L sc g k219 k252 k285 k308 k341 k354 k377 k390 k403 k436 k469 k492 k505 k528 k541 k554 k577 k610 k623 k646 k679 k702 k715 k758 k781 k804 k827 k850 k883 k907 k930 k953 k976 k999 k1013 k1021 x3 S72
      else
        k469  S72))))))
    else
    if (v1 &&& 63) = 11 then
      jlk sc (x3 + 1) L (fun v74 =>
      jcl (f_X11_quarrels v74 S) (fun v76 S75 =>
      jlk sc (x3 + 1) L (fun v77 =>
      jcl (f_X12_quarrels v77 S75) (fun v79 S78 =>
      if v76 = v79 then
        f_L_law_1015 L sc g k219 k252 k285 k308 k341 k354 k377 k390 k403 k436 k469 k492 k505 k528 k541 k554 k577 k610 k623 k646 k679 k702 k715 k758 k781 k804 k827 k850 k883 k907 k930 k953 k976 k999 k1013 k1021 x3 S78
      else
        k492  S78))))
    else
    if (v1 &&& 63) = 12 then
      jcl (f_X11_away  S) (fun v81 S80 =>
      jcl (f_X12_away  S80) (fun v83 S82 =>
      if v81 = v83 then
        f_L_law_1015 L sc g k219 k252 k285 k308 k341 k354 k377 k390 k403 k436 k469 k492 k505 k528 k541 k554 k577 k610 k623 k646 k679 k702 k715 k758 k781 k804 k827 k850 k883 k907 k930 k953 k976 k999 k1013 k1021 x3 S82
      else
        k505  S82))
    else
    if (v1 &&& 63) = 13 then
      jlk sc (x3 + 1) L (fun v84 =>
      jcl (f_X11_orders v84 S) (fun v86 S85 =>
      jlk sc (x3 + 1) L (fun v87 =>
      jcl (f_X12_orders v87 S85) (fun v89 S88 =>
      if v86 = v89 then
        f_L_law_1015 L sc g k219 k252 k285 k308 k341 k354 k377 k390 k403 k436 k469 k492 k505 k528 k541 k554 k577 k610 k623 k646 k679 k702 k715 k758 k781 k804 k827 k850 k883 k907 k930 k953 k976 k999 k1013 k1021 x3 S88
      else
        k528  S88))))
    else
    if (v1 &&& 63) = 14 then
      jcl (f_X11_moved  S) (fun v91 S90 =>
      jcl (f_X12_moved  S90) (fun v93 S92 =>
      if v91 = v93 then
        f_L_law_1015 L sc g k219 k252 k285 k308 k341 k354 k377 k390 k403 k436 k469 k492 k505 k528 k541 k554 k577 k610 k623 k646 k679 k702 k715 k758 k781 k804 k827 k850 k883 k907 k930 k953 k976 k999 k1013 k1021 x3 S92
      else
        k541  S92))
    else
    if (v1 &&& 63) = 15 then
      jcl (f_X11_longest  S) (fun v95 S94 =>
      jcl (f_X12_longest  S94) (fun v97 S96 =>
      if v95 = v97 then
        f_L_law_1015 L sc g k219 k252 k285 k308 k341 k354 k377 k390 k403 k436 k469 k492 k505 k528 k541 k554 k577 k610 k623 k646 k679 k702 k715 k758 k781 k804 k827 k850 k883 k907 k930 k953 k976 k999 k1013 k1021 x3 S96
      else
        k554  S96))
    else
    if (v1 &&& 63) = 16 then
      jlk sc (x3 + 1) L (fun v98 =>
      jcl (f_X11_greatest v98 S) (fun v100 S99 =>
      jlk sc (x3 + 1) L (fun v101 =>
      jcl (f_X12_greatest v101 S99) (fun v103 S102 =>
      if v100 = v103 then
        f_L_law_1015 L sc g k219 k252 k285 k308 k341 k354 k377 k390 k403 k436 k469 k492 k505 k528 k541 k554 k577 k610 k623 k646 k679 k702 k715 k758 k781 k804 k827 k850 k883 k907 k930 k953 k976 k999 k1013 k1021 x3 S102
      else
        k577  S102))))
    else
    if (v1 &&& 63) = 17 then
      jlk sc (x3 + 1) L (fun v104 =>
      jlk sc (x3 + 2) L (fun v105 =>
      jcl (f_X11_chain v104 v105 S) (fun v107 S106 =>
      jlk sc (x3 + 1) L (fun v108 =>
      jlk sc (x3 + 2) L (fun v109 =>
      jcl (f_X12_chain v108 v109 S106) (fun v111 S110 =>
      if v107 = v111 then
        f_L_law_1015 L sc g k219 k252 k285 k308 k341 k354 k377 k390 k403 k436 k469 k492 k505 k528 k541 k554 k577 k610 k623 k646 k679 k702 k715 k758 k781 k804 k827 k850 k883 k907 k930 k953 k976 k999 k1013 k1021 x3 S110
      else
        k610  S110))))))
    else
    if (v1 &&& 63) = 18 then
      jcl (f_X11_meet  S) (fun v113 S112 =>
      jcl (f_X12_meet  S112) (fun v115 S114 =>
      if v113 = v115 then
        f_L_law_1015 L sc g k219 k252 k285 k308 k341 k354 k377 k390 k403 k436 k469 k492 k505 k528 k541 k554 k577 k610 k623 k646 k679 k702 k715 k758 k781 k804 k827 k850 k883 k907 k930 k953 k976 k999 k1013 k1021 x3 S114
      else
        k623  S114))
    else
    if (v1 &&& 63) = 19 then
      jlk sc (x3 + 1) L (fun v116 =>
      jcl (f_X11_next v116 S) (fun v118 S117 =>
      jlk sc (x3 + 1) L (fun v119 =>
      jcl (f_X12_next v119 S117) (fun v121 S120 =>
      if v118 = v121 then
        f_L_law_1015 L sc g k219 k252 k285 k308 k341 k354 k377 k390 k403 k436 k469 k492 k505 k528 k541 k554 k577 k610 k623 k646 k679 k702 k715 k758 k781 k804 k827 k850 k883 k907 k930 k953 k976 k999 k1013 k1021 x3 S120
      else
        k646  S120))))
    else
    if (v1 &&& 63) = 20 then
      jlk sc (x3 + 1) L (fun v122 =>
      jlk sc (x3 + 2) L (fun v123 =>
      jcl (f_X11_reading v122 v123 S) (fun v125 S124 =>
      jlk sc (x3 + 1) L (fun v126 =>
      jlk sc (x3 + 2) L (fun v127 =>
      jcl (f_X12_reading v126 v127 S124) (fun v129 S128 =>
      if v125 = v129 then
        f_L_law_1015 L sc g k219 k252 k285 k308 k341 k354 k377 k390 k403 k436 k469 k492 k505 k528 k541 k554 k577 k610 k623 k646 k679 k702 k715 k758 k781 k804 k827 k850 k883 k907 k930 k953 k976 k999 k1013 k1021 x3 S128
      else
        k679  S128))))))
    else
    if (v1 &&& 63) = 21 then
      jlk sc (x3 + 1) L (fun v130 =>
      jcl (f_X11_who v130 S) (fun v132 S131 =>
      jlk sc (x3 + 1) L (fun v133 =>
      jcl (f_X12_who v133 S131) (fun v135 S134 =>
      if v132 = v135 then
        f_L_law_1015 L sc g k219 k252 k285 k308 k341 k354 k377 k390 k403 k436 k469 k492 k505 k528 k541 k554 k577 k610 k623 k646 k679 k702 k715 k758 k781 k804 k827 k850 k883 k907 k930 k953 k976 k999 k1013 k1021 x3 S134
      else
        k702  S134))))
    else
    if (v1 &&& 63) = 22 then
      jcl (f_X11_tryNext  S) (fun v137 S136 =>
      jcl (f_X12_tryNext  S136) (fun v139 S138 =>
      if v137 = v139 then
        f_L_law_1015 L sc g k219 k252 k285 k308 k341 k354 k377 k390 k403 k436 k469 k492 k505 k528 k541 k554 k577 k610 k623 k646 k679 k702 k715 k758 k781 k804 k827 k850 k883 k907 k930 k953 k976 k999 k1013 k1021 x3 S138
      else
        k715  S138))
    else
    if (v1 &&& 63) = 23 then
      jlk sc (x3 + 1) L (fun v140 =>
      jlk sc (x3 + 2) L (fun v141 =>
      jlk sc (x3 + 3) L (fun v142 =>
      jcl (f_X11_note v140 v141 v142 S) (fun v144 S143 =>
      jlk sc (x3 + 1) L (fun v145 =>
      jlk sc (x3 + 2) L (fun v146 =>
      jlk sc (x3 + 3) L (fun v147 =>
      jcl (f_X12_note v145 v146 v147 S143) (fun v149 S148 =>
      if v144 = v149 then
        f_L_law_1015 L sc g k219 k252 k285 k308 k341 k354 k377 k390 k403 k436 k469 k492 k505 k528 k541 k554 k577 k610 k623 k646 k679 k702 k715 k758 k781 k804 k827 k850 k883 k907 k930 k953 k976 k999 k1013 k1021 x3 S148
      else
        k758  S148))))))))
    else
    if (v1 &&& 63) = 24 then
      jlk sc (x3 + 1) L (fun v150 =>
      jcl (f_X11_laws v150 S) (fun v152 S151 =>
      jlk sc (x3 + 1) L (fun v153 =>
      jcl (f_X12_laws v153 S151) (fun v155 S154 =>
      if v152 = v155 then
        f_L_law_1015 L sc g k219 k252 k285 k308 k341 k354 k377 k390 k403 k436 k469 k492 k505 k528 k541 k554 k577 k610 k623 k646 k679 k702 k715 k758 k781 k804 k827 k850 k883 k907 k930 k953 k976 k999 k1013 k1021 x3 S154
      else
        k781  S154))))
    else
    if (v1 &&& 63) = 25 then
      jlk sc (x3 + 1) L (fun v156 =>
      jcl (f_X11_forget v156 S) (fun v158 S157 =>
      jlk sc (x3 + 1) L (fun v159 =>
      jcl (f_X12_forget v159 S157) (fun v161 S160 =>
      if v158 = v161 then
        f_L_law_1015 L sc g k219 k252 k285 k308 k341 k354 k377 k390 k403 k436 k469 k492 k505 k528 k541 k554 k577 k610 k623 k646 k679 k702 k715 k758 k781 k804 k827 k850 k883 k907 k930 k953 k976 k999 k1013 k1021 x3 S160
      else
        k804  S160))))
    else
    if (v1 &&& 63) = 26 then
      jlk sc (x3 + 1) L (fun v162 =>
      jcl (f_X11_split v162 S) (fun v164 S163 =>
      jlk sc (x3 + 1) L (fun v165 =>
      jcl (f_X12_split v165 S163) (fun v167 S166 =>
      if v164 = v167 then
        f_L_law_1015 L sc g k219 k252 k285 k308 k341 k354 k377 k390 k403 k436 k469 k492 k505 k528 k541 k554 k577 k610 k623 k646 k679 k702 k715 k758 k781 k804 k827 k850 k883 k907 k930 k953 k976 k999 k1013 k1021 x3 S166
      else
        k827  S166))))
    else
    if (v1 &&& 63) = 27 then
      jlk sc (x3 + 1) L (fun v168 =>
      jcl (f_X11_odds v168 S) (fun v170 S169 =>
      jlk sc (x3 + 1) L (fun v171 =>
      jcl (f_X12_odds v171 S169) (fun v173 S172 =>
      if v170 = v173 then
        f_L_law_1015 L sc g k219 k252 k285 k308 k341 k354 k377 k390 k403 k436 k469 k492 k505 k528 k541 k554 k577 k610 k623 k646 k679 k702 k715 k758 k781 k804 k827 k850 k883 k907 k930 k953 k976 k999 k1013 k1021 x3 S172
      else
        k850  S172))))
    else
    if (v1 &&& 63) = 28 then
      jlk sc (x3 + 1) L (fun v174 =>
      jlk sc (x3 + 2) L (fun v175 =>
      jcl (f_X11_streets v174 v175 S) (fun v177 S176 =>
      jlk sc (x3 + 1) L (fun v178 =>
      jlk sc (x3 + 2) L (fun v179 =>
      jcl (f_X12_streets v178 v179 S176) (fun v181 S180 =>
      if v177 = v181 then
        f_L_law_1015 L sc g k219 k252 k285 k308 k341 k354 k377 k390 k403 k436 k469 k492 k505 k528 k541 k554 k577 k610 k623 k646 k679 k702 k715 k758 k781 k804 k827 k850 k883 k907 k930 k953 k976 k999 k1013 k1021 x3 S180
      else
        k883  S180))))))
    else
    if (v1 &&& 63) = 29 then
      jlk sc (x3 + 1) L (fun v182 =>
      jcl (f_X11_part v182 S) (fun v184 S183 =>
      jlk sc (x3 + 1) L (fun v185 =>
      jcl (f_X12_part v185 S183) (fun v187 S186 =>
      if (lg_cmp v184 v187) = 0 then
        f_L_law_1015 L sc g k219 k252 k285 k308 k341 k354 k377 k390 k403 k436 k469 k492 k505 k528 k541 k554 k577 k610 k623 k646 k679 k702 k715 k758 k781 k804 k827 k850 k883 k907 k930 k953 k976 k999 k1013 k1021 x3 S186
      else
        k907  S186))))
    else
    if (v1 &&& 63) = 30 then
      jlk sc (x3 + 1) L (fun v188 =>
      jcl (f_X11_image v188 S) (fun v190 S189 =>
      jlk sc (x3 + 1) L (fun v191 =>
      jcl (f_X12_image v191 S189) (fun v193 S192 =>
      if v190 = v193 then
        f_L_law_1015 L sc g k219 k252 k285 k308 k341 k354 k377 k390 k403 k436 k469 k492 k505 k528 k541 k554 k577 k610 k623 k646 k679 k702 k715 k758 k781 k804 k827 k850 k883 k907 k930 k953 k976 k999 k1013 k1021 x3 S192
      else
        k930  S192))))
    else
    if (v1 &&& 63) = 31 then
      jlk sc (x3 + 1) L (fun v194 =>
      jcl (f_X11_from v194 S) (fun v196 S195 =>
      jlk sc (x3 + 1) L (fun v197 =>
      jcl (f_X12_from v197 S195) (fun v199 S198 =>
      if v196 = v199 then
        f_L_law_1015 L sc g k219 k252 k285 k308 k341 k354 k377 k390 k403 k436 k469 k492 k505 k528 k541 k554 k577 k610 k623 k646 k679 k702 k715 k758 k781 k804 k827 k850 k883 k907 k930 k953 k976 k999 k1013 k1021 x3 S198
      else
        k953  S198))))
    else
    if (v1 &&& 63) = 32 then
      jlk sc (x3 + 1) L (fun v200 =>
      jcl (f_X11_status v200 S) (fun v202 S201 =>
      jlk sc (x3 + 1) L (fun v203 =>
      jcl (f_X12_status v203 S201) (fun v205 S204 =>
      if v202 = v205 then
        f_L_law_1015 L sc g k219 k252 k285 k308 k341 k354 k377 k390 k403 k436 k469 k492 k505 k528 k541 k554 k577 k610 k623 k646 k679 k702 k715 k758 k781 k804 k827 k850 k883 k907 k930 k953 k976 k999 k1013 k1021 x3 S204
      else
        k976  S204))))
    else
    if (v1 &&& 63) = 33 then
      jlk sc (x3 + 1) L (fun v206 =>
      jcl (f_X11_count v206 S) (fun v208 S207 =>
      jlk sc (x3 + 1) L (fun v209 =>
      jcl (f_X12_count v209 S207) (fun v211 S210 =>
      if v208 = v211 then
        f_L_law_1015 L sc g k219 k252 k285 k308 k341 k354 k377 k390 k403 k436 k469 k492 k505 k528 k541 k554 k577 k610 k623 k646 k679 k702 k715 k758 k781 k804 k827 k850 k883 k907 k930 k953 k976 k999 k1013 k1021 x3 S210
      else
        k999  S210))))
    else
    if (v1 &&& 63) = 34 then
      jcl (f_X11_digest  S) (fun v213 S212 =>
      jcl (f_X12_digest  S212) (fun v215 S214 =>
      if (lg_cmp v213 v215) = 0 then
        f_L_law_1015 L sc g k219 k252 k285 k308 k341 k354 k377 k390 k403 k436 k469 k492 k505 k528 k541 k554 k577 k610 k623 k646 k679 k702 k715 k758 k781 k804 k827 k850 k883 k907 k930 k953 k976 k999 k1013 k1021 x3 S214
      else
        k1013  S214))
    else
      f_L_law_1015 L sc g k219 k252 k285 k308 k341 k354 k377 k390 k403 k436 k469 k492 k505 k528 k541 k554 k577 k610 k623 k646 k679 k702 k715 k758 k781 k804 k827 k850 k883 k907 k930 k953 k976 k999 k1013 k1021 x3 S)
def lp_L_law_18 (L : Nat) (sc : Nat → Int32) (k219 : jS → Option (Unit)) (k252 : jS → Option (Unit)) (k285 : jS → Option (Unit)) (k308 : jS → Option (Unit)) (k341 : jS → Option (Unit)) (k354 : jS → Option (Unit)) (k377 : jS → Option (Unit)) (k390 : jS → Option (Unit)) (k403 : jS → Option (Unit)) (k436 : jS → Option (Unit)) (k469 : jS → Option (Unit)) (k492 : jS → Option (Unit)) (k505 : jS → Option (Unit)) (k528 : jS → Option (Unit)) (k541 : jS → Option (Unit)) (k554 : jS → Option (Unit)) (k577 : jS → Option (Unit)) (k610 : jS → Option (Unit)) (k623 : jS → Option (Unit)) (k646 : jS → Option (Unit)) (k679 : jS → Option (Unit)) (k702 : jS → Option (Unit)) (k715 : jS → Option (Unit)) (k758 : jS → Option (Unit)) (k781 : jS → Option (Unit)) (k804 : jS → Option (Unit)) (k827 : jS → Option (Unit)) (k850 : jS → Option (Unit)) (k883 : jS → Option (Unit)) (k907 : jS → Option (Unit)) (k930 : jS → Option (Unit)) (k953 : jS → Option (Unit)) (k976 : jS → Option (Unit)) (k999 : jS → Option (Unit)) (k1013 : jS → Option (Unit)) (k1021 : jS → Option (Unit)) (x3 : Int32) (S : jS) : Option (Unit) := jloop (α := Int32 × jS) (fun g q => f_L_law_18 L sc (fun x3 S => g (x3, S)) k219 k252 k285 k308 k341 k354 k377 k390 k403 k436 k469 k492 k505 k528 k541 k554 k577 k610 k623 k646 k679 k702 k715 k758 k781 k804 k827 k850 k883 k907 k930 k953 k976 k999 k1013 k1021 q.1 q.2) jN (x3, S)
def f_L_law_219 (L : Nat) (sc : Nat → Int32)   (S : jS) : Option (Unit) :=
  none
def f_L_law_252 (L : Nat) (sc : Nat → Int32)   (S : jS) : Option (Unit) :=
  none
def f_L_law_285 (L : Nat) (sc : Nat → Int32)   (S : jS) : Option (Unit) :=
  none
def f_L_law_308 (L : Nat) (sc : Nat → Int32)   (S : jS) : Option (Unit) :=
  none
def f_L_law_341 (L : Nat) (sc : Nat → Int32)   (S : jS) : Option (Unit) :=
  none
def f_L_law_354 (L : Nat) (sc : Nat → Int32)   (S : jS) : Option (Unit) :=
  none
def f_L_law_377 (L : Nat) (sc : Nat → Int32)   (S : jS) : Option (Unit) :=
  none
def f_L_law_390 (L : Nat) (sc : Nat → Int32)   (S : jS) : Option (Unit) :=
  none
def f_L_law_403 (L : Nat) (sc : Nat → Int32)   (S : jS) : Option (Unit) :=
  none
def f_L_law_436 (L : Nat) (sc : Nat → Int32)   (S : jS) : Option (Unit) :=
  none
def f_L_law_469 (L : Nat) (sc : Nat → Int32)   (S : jS) : Option (Unit) :=
  none
def f_L_law_492 (L : Nat) (sc : Nat → Int32)   (S : jS) : Option (Unit) :=
  none
def f_L_law_505 (L : Nat) (sc : Nat → Int32)   (S : jS) : Option (Unit) :=
  none
def f_L_law_528 (L : Nat) (sc : Nat → Int32)   (S : jS) : Option (Unit) :=
  none
def f_L_law_541 (L : Nat) (sc : Nat → Int32)   (S : jS) : Option (Unit) :=
  none
def f_L_law_554 (L : Nat) (sc : Nat → Int32)   (S : jS) : Option (Unit) :=
  none
def f_L_law_577 (L : Nat) (sc : Nat → Int32)   (S : jS) : Option (Unit) :=
  none
def f_L_law_610 (L : Nat) (sc : Nat → Int32)   (S : jS) : Option (Unit) :=
  none
def f_L_law_623 (L : Nat) (sc : Nat → Int32)   (S : jS) : Option (Unit) :=
  none
def f_L_law_646 (L : Nat) (sc : Nat → Int32)   (S : jS) : Option (Unit) :=
  none
def f_L_law_679 (L : Nat) (sc : Nat → Int32)   (S : jS) : Option (Unit) :=
  none
def f_L_law_702 (L : Nat) (sc : Nat → Int32)   (S : jS) : Option (Unit) :=
  none
def f_L_law_715 (L : Nat) (sc : Nat → Int32)   (S : jS) : Option (Unit) :=
  none
def f_L_law_758 (L : Nat) (sc : Nat → Int32)   (S : jS) : Option (Unit) :=
  none
def f_L_law_781 (L : Nat) (sc : Nat → Int32)   (S : jS) : Option (Unit) :=
  none
def f_L_law_804 (L : Nat) (sc : Nat → Int32)   (S : jS) : Option (Unit) :=
  none
def f_L_law_827 (L : Nat) (sc : Nat → Int32)   (S : jS) : Option (Unit) :=
  none
def f_L_law_850 (L : Nat) (sc : Nat → Int32)   (S : jS) : Option (Unit) :=
  none
def f_L_law_883 (L : Nat) (sc : Nat → Int32)   (S : jS) : Option (Unit) :=
  none
def f_L_law_907 (L : Nat) (sc : Nat → Int32)   (S : jS) : Option (Unit) :=
  none
def f_L_law_930 (L : Nat) (sc : Nat → Int32)   (S : jS) : Option (Unit) :=
  none
def f_L_law_953 (L : Nat) (sc : Nat → Int32)   (S : jS) : Option (Unit) :=
  none
def f_L_law_976 (L : Nat) (sc : Nat → Int32)   (S : jS) : Option (Unit) :=
  none
def f_L_law_999 (L : Nat) (sc : Nat → Int32)   (S : jS) : Option (Unit) :=
  none
def f_L_law_1013 (L : Nat) (sc : Nat → Int32)   (S : jS) : Option (Unit) :=
  none
def f_L_law_1021 (L : Nat) (sc : Nat → Int32)   (S : jS) : Option (Unit) :=
  some ()
def f_L_law_e (L : Nat) (sc : Nat → Int32)   (S : jS) : Option (Unit) :=
  lp_L_law_18 L sc (f_L_law_219 L sc) (f_L_law_252 L sc) (f_L_law_285 L sc) (f_L_law_308 L sc) (f_L_law_341 L sc) (f_L_law_354 L sc) (f_L_law_377 L sc) (f_L_law_390 L sc) (f_L_law_403 L sc) (f_L_law_436 L sc) (f_L_law_469 L sc) (f_L_law_492 L sc) (f_L_law_505 L sc) (f_L_law_528 L sc) (f_L_law_541 L sc) (f_L_law_554 L sc) (f_L_law_577 L sc) (f_L_law_610 L sc) (f_L_law_623 L sc) (f_L_law_646 L sc) (f_L_law_679 L sc) (f_L_law_702 L sc) (f_L_law_715 L sc) (f_L_law_758 L sc) (f_L_law_781 L sc) (f_L_law_804 L sc) (f_L_law_827 L sc) (f_L_law_850 L sc) (f_L_law_883 L sc) (f_L_law_907 L sc) (f_L_law_930 L sc) (f_L_law_953 L sc) (f_L_law_976 L sc) (f_L_law_999 L sc) (f_L_law_1013 L sc) (f_L_law_1021 L sc) 0 S
def jS0 : jS := (fun _ _ => 0, fun _ _ => 0)
def jS1 : jS := jsL jS0 0 6 1
def f_X3_init_24  (g : Int32 → jS → Option (jS)) (k48 : jS → Option (jS)) (x1 : Int32) (S : jS) : Option (jS) :=
  if 300 < (x1 * x1) then
    k48  S
  else
    jst S 2 (x1 * x1) 301 (vp_nar .boolean 1) (fun S1 =>
    g (x1 + 1) S1)
def lp_X3_init_24  (k48 : jS → Option (jS)) (x1 : Int32) (S : jS) : Option (jS) := jloop (α := Int32 × jS) (fun g q => f_X3_init_24  (fun x1 S => g (x1, S)) k48 q.1 q.2) jN (x1, S)
def f_X3_init_61  (g : Int32 → Int32 → jS → Option (jS)) (k85 : Int32 → jS → Option (jS)) (x1 : Int32) (x2 : Int32) (S : jS) : Option (jS) :=
  if 300 < x2 then
    k85 x1 S
  else
    jld S 1 x2 301 (fun v1 =>
    jst S 1 x2 301 (v1 + x1) (fun S2 =>
    g x1 (x2 + x1) S2))
def lp_X3_init_61  (k85 : Int32 → jS → Option (jS)) (x1 : Int32) (x2 : Int32) (S : jS) : Option (jS) := jloop (α := Int32 × Int32 × jS) (fun g q => f_X3_init_61  (fun x1 x2 S => g (x1, x2, S)) k85 q.1 q.2.1 q.2.2) jN (x1, x2, S)
def f_X3_init_85  (g : Int32 → jS → Option (jS)) (k91 : jS → Option (jS)) (x1 : Int32) (S : jS) : Option (jS) :=
  g (x1 + 1) S
def f_X3_init_50  (g : Int32 → jS → Option (jS)) (k91 : jS → Option (jS)) (x1 : Int32) (S : jS) : Option (jS) :=
  if 150 < x1 then
    k91  S
  else
    lp_X3_init_61  (f_X3_init_85  g k91) x1 (2 * x1) S
def lp_X3_init_50  (k91 : jS → Option (jS)) (x1 : Int32) (S : jS) : Option (jS) := jloop (α := Int32 × jS) (fun g q => f_X3_init_50  (fun x1 S => g (x1, S)) k91 q.1 q.2) jN (x1, S)
def f_X3_init_91    (S : jS) : Option (jS) :=
  some S
def f_X3_init_48    (S : jS) : Option (jS) :=
  lp_X3_init_50  (f_X3_init_91) 1 S
def f_X3_init_e    (S : jS) : Option (jS) :=
  lp_X3_init_24  (f_X3_init_48) 1 S
def f_X12_init_137  (g : Int32 → Int32 → jS → Option (jS)) (k161 : Int32 → jS → Option (jS)) (x1 : Int32) (x2 : Int32) (S : jS) : Option (jS) :=
  if 300 < x2 then
    k161 x1 S
  else
    jld S 5 x2 301 (fun v1 =>
    jst S 5 x2 301 (v1 + x1) (fun S2 =>
    g x1 (x2 + x1) S2))
def lp_X12_init_137  (k161 : Int32 → jS → Option (jS)) (x1 : Int32) (x2 : Int32) (S : jS) : Option (jS) := jloop (α := Int32 × Int32 × jS) (fun g q => f_X12_init_137  (fun x1 x2 S => g (x1, x2, S)) k161 q.1 q.2.1 q.2.2) jN (x1, x2, S)
def f_X12_init_161  (g : Int32 → jS → Option (jS)) (k167 : jS → Option (jS)) (x1 : Int32) (S : jS) : Option (jS) :=
  g (x1 + 1) S
def f_X12_init_126  (g : Int32 → jS → Option (jS)) (k167 : jS → Option (jS)) (x1 : Int32) (S : jS) : Option (jS) :=
  if 300 < x1 then
    k167  S
  else
    lp_X12_init_137  (f_X12_init_161  g k167) x1 (2 * x1) S
def lp_X12_init_126  (k167 : jS → Option (jS)) (x1 : Int32) (S : jS) : Option (jS) := jloop (α := Int32 × jS) (fun g q => f_X12_init_126  (fun x1 S => g (x1, S)) k167 q.1 q.2) jN (x1, S)
def f_X12_init_167    (S : jS) : Option (jS) :=
  some S
def f_X12_init_e    (S : jS) : Option (jS) :=
  lp_X12_init_126  (f_X12_init_167) 1 S
