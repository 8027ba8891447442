/-! every method as a function over the heap, by program out of its bytecode (dec.py) -/
noncomputable def F_X1_init (h : AH) (o : Nat) : Option (AH) :=
  Option.bind (some (sN h 11 160)) fun h1 =>
  Option.bind (ptR h1 o 1 0 (hN h)) fun h2 =>
  some h2
noncomputable def L_J7_fill_53178_5 {β : Type} (o0 : Nat) (x1 : Int32) (x3 : Int32) (k : AH → Int32 → Option (β)) : Nat → AH → Int32 → Option (β)
  | 0, _, _ => none
  | n + 1, h, x2 =>
    if x3 ≤ x2 then
      k h x2
    else
      Option.bind (stA h o0 10 x2 x1) fun h1 =>
      L_J7_fill_53178_5 o0 x1 x3 k n h1 (x2 + 1)
noncomputable def F_J7_fill_53178 (h : AH) (o0 : Nat) (x1 : Int32) : Option (AH) :=
  Option.bind (lnA h o0) fun v1 =>
  L_J7_fill_53178_5 o0 x1 v1 (fun h2 y3 =>
    some h2
  ) FU h 0
noncomputable def F_X2_init (h : AH) (o : Nat) : Option (AH) :=
  Option.bind (some (sN h 10 8)) fun h1 =>
  Option.bind (ptR h1 o 2 2 (hN h)) fun h2 =>
  Option.bind (some (sN h2 10 8)) fun h3 =>
  Option.bind (ptR h3 o 2 3 (hN h2)) fun h4 =>
  Option.bind (some (sN h4 10 8)) fun h5 =>
  Option.bind (ptR h5 o 2 4 (hN h4)) fun h6 =>
  Option.bind (some (sN h6 10 5)) fun h7 =>
  Option.bind (ptR h7 o 2 5 (hN h6)) fun h8 =>
  Option.bind (some (sN h8 10 5)) fun h9 =>
  Option.bind (ptR h9 o 2 6 (hN h8)) fun h10 =>
  Option.bind (some (sN h10 10 14)) fun h11 =>
  Option.bind (ptR h11 o 2 7 (hN h10)) fun h12 =>
  Option.bind (gtR h12 o 2 7) fun r13 =>
  Option.bind (F_J7_fill_53178 h12 r13 (-1)) fun h14 =>
  some h14
noncomputable def F_X3_init (h : AH) (o : Nat) : Option (AH) :=
  Option.bind (some (sN h 10 8)) fun h1 =>
  Option.bind (ptR h1 o 3 0 (hN h)) fun h2 =>
  Option.bind (some (sN h2 10 8)) fun h3 =>
  Option.bind (ptR h3 o 3 1 (hN h2)) fun h4 =>
  Option.bind (some (sN h4 10 8)) fun h5 =>
  Option.bind (ptR h5 o 3 2 (hN h4)) fun h6 =>
  Option.bind (some (sN h6 10 8)) fun h7 =>
  Option.bind (ptR h7 o 3 3 (hN h6)) fun h8 =>
  Option.bind (some (sN h8 10 5)) fun h9 =>
  Option.bind (ptR h9 o 3 4 (hN h8)) fun h10 =>
  Option.bind (some (sN h10 10 5)) fun h11 =>
  Option.bind (ptR h11 o 3 5 (hN h10)) fun h12 =>
  Option.bind (some (sN h12 10 5)) fun h13 =>
  Option.bind (ptR h13 o 3 6 (hN h12)) fun h14 =>
  Option.bind (some (sN h14 10 5)) fun h15 =>
  Option.bind (ptR h15 o 3 7 (hN h14)) fun h16 =>
  Option.bind (some (sN h16 10 5)) fun h17 =>
  Option.bind (ptR h17 o 3 8 (hN h16)) fun h18 =>
  Option.bind (gtR h18 o 3 2) fun r19 =>
  Option.bind (F_J7_fill_53178 h18 r19 (-1)) fun h20 =>
  Option.bind (gtR h20 o 3 6) fun r21 =>
  Option.bind (F_J7_fill_53178 h20 r21 (-1)) fun h22 =>
  some h22
noncomputable def F_X0_init (h : AH) (o : Nat) : Option (AH) :=
  Option.bind (some (sN h 10 6)) fun h1 =>
  Option.bind (ptR h1 o 0 0 (hN h)) fun h2 =>
  Option.bind (some (sN h2 10 6)) fun h3 =>
  Option.bind (ptR h3 o 0 1 (hN h2)) fun h4 =>
  Option.bind (some (sN h4 10 6)) fun h5 =>
  Option.bind (ptR h5 o 0 2 (hN h4)) fun h6 =>
  some h6
noncomputable def F_X4_init (h : AH) (o : Nat) : Option (AH) :=
  Option.bind (some (sN h 1 5)) fun h1 =>
  Option.bind (F_X1_init h1 (hN h)) fun h2 =>
  Option.bind (ptR h2 o 4 0 (hN h)) fun h3 =>
  Option.bind (some (sN h3 2 8)) fun h4 =>
  Option.bind (F_X2_init h4 (hN h3)) fun h5 =>
  Option.bind (ptR h5 o 4 1 (hN h3)) fun h6 =>
  Option.bind (some (sN h6 2 8)) fun h7 =>
  Option.bind (F_X2_init h7 (hN h6)) fun h8 =>
  Option.bind (ptR h8 o 4 2 (hN h6)) fun h9 =>
  Option.bind (some (sN h9 3 14)) fun h10 =>
  Option.bind (F_X3_init h10 (hN h9)) fun h11 =>
  Option.bind (ptR h11 o 4 3 (hN h9)) fun h12 =>
  Option.bind (some (sN h12 3 14)) fun h13 =>
  Option.bind (F_X3_init h13 (hN h12)) fun h14 =>
  Option.bind (ptR h14 o 4 4 (hN h12)) fun h15 =>
  Option.bind (some (sN h15 13 8)) fun h16 =>
  Option.bind (ptR h16 o 4 5 (hN h15)) fun h17 =>
  Option.bind (some (sN h17 13 2)) fun h18 =>
  Option.bind (ptR h18 o 4 7 (hN h17)) fun h19 =>
  Option.bind (some (sN h19 12 2)) fun h20 =>
  Option.bind (ptR h20 o 4 8 (hN h19)) fun h21 =>
  Option.bind (some (sN h21 0 4)) fun h22 =>
  Option.bind (F_X0_init h22 (hN h21)) fun h23 =>
  Option.bind (ptR h23 o 4 9 (hN h21)) fun h24 =>
  Option.bind (some (sN h24 10 64)) fun h25 =>
  Option.bind (ptR h25 o 4 10 (hN h24)) fun h26 =>
  Option.bind (gtR h26 o 4 5) fun r27 =>
  Option.bind (some (sN h26 3 14)) fun h28 =>
  Option.bind (F_X3_init h28 (hN h26)) fun h29 =>
  Option.bind (stR h29 r27 0 (hN h26)) fun h30 =>
  Option.bind (gtR h30 o 4 5) fun r31 =>
  Option.bind (some (sN h30 3 14)) fun h32 =>
  Option.bind (F_X3_init h32 (hN h30)) fun h33 =>
  Option.bind (stR h33 r31 (0 + 1) (hN h30)) fun h34 =>
  Option.bind (gtR h34 o 4 5) fun r35 =>
  Option.bind (some (sN h34 3 14)) fun h36 =>
  Option.bind (F_X3_init h36 (hN h34)) fun h37 =>
  Option.bind (stR h37 r35 ((0 + 1) + 1) (hN h34)) fun h38 =>
  Option.bind (gtR h38 o 4 5) fun r39 =>
  Option.bind (some (sN h38 3 14)) fun h40 =>
  Option.bind (F_X3_init h40 (hN h38)) fun h41 =>
  Option.bind (stR h41 r39 (((0 + 1) + 1) + 1) (hN h38)) fun h42 =>
  Option.bind (gtR h42 o 4 5) fun r43 =>
  Option.bind (some (sN h42 3 14)) fun h44 =>
  Option.bind (F_X3_init h44 (hN h42)) fun h45 =>
  Option.bind (stR h45 r43 ((((0 + 1) + 1) + 1) + 1) (hN h42)) fun h46 =>
  Option.bind (gtR h46 o 4 5) fun r47 =>
  Option.bind (some (sN h46 3 14)) fun h48 =>
  Option.bind (F_X3_init h48 (hN h46)) fun h49 =>
  Option.bind (stR h49 r47 (((((0 + 1) + 1) + 1) + 1) + 1) (hN h46)) fun h50 =>
  Option.bind (gtR h50 o 4 5) fun r51 =>
  Option.bind (some (sN h50 3 14)) fun h52 =>
  Option.bind (F_X3_init h52 (hN h50)) fun h53 =>
  Option.bind (stR h53 r51 ((((((0 + 1) + 1) + 1) + 1) + 1) + 1) (hN h50)) fun h54 =>
  Option.bind (gtR h54 o 4 5) fun r55 =>
  Option.bind (some (sN h54 3 14)) fun h56 =>
  Option.bind (F_X3_init h56 (hN h54)) fun h57 =>
  Option.bind (stR h57 r55 (((((((0 + 1) + 1) + 1) + 1) + 1) + 1) + 1) (hN h54)) fun h58 =>
  Option.bind (gtR h58 o 4 7) fun r59 =>
  Option.bind (some (sN h58 3 14)) fun h60 =>
  Option.bind (F_X3_init h60 (hN h58)) fun h61 =>
  Option.bind (stR h61 r59 0 (hN h58)) fun h62 =>
  Option.bind (gtR h62 o 4 7) fun r63 =>
  Option.bind (some (sN h62 3 14)) fun h64 =>
  Option.bind (F_X3_init h64 (hN h62)) fun h65 =>
  Option.bind (stR h65 r63 (0 + 1) (hN h62)) fun h66 =>
  some h66
noncomputable def L_X5_blank_2 {β : Type} (o0 : Nat) (k : AH → Int32 → Option (β)) : Nat → AH → Int32 → Option (β)
  | 0, _, _ => none
  | n + 1, h, x1 =>
    if 50 ≤ x1 then
      k h x1
    else
      Option.bind (α := Int32) (
        if 36 ≤ x1 then
          some (-1)
        else
          some 0
      ) fun q1 =>
      Option.bind (stA h o0 10 x1 q1) fun h2 =>
      L_X5_blank_2 o0 k n h2 (x1 + 1)
noncomputable def F_X5_blank (h : AH) (o0 : Nat) : Option (AH) :=
  L_X5_blank_2 o0 (fun h3 y4 =>
    some h3
  ) FU h 0
noncomputable def L_X5_begins_2 {β : Type} (o0 : Nat) (k : AH → Int32 → Option (β)) : Nat → AH → Int32 → Option (β)
  | 0, _, _ => none
  | n + 1, h, x1 =>
    if 52 ≤ x1 then
      k h x1
    else
      Option.bind (gtR h o0 5 2) fun r1 =>
      Option.bind (stA h r1 10 x1 0) fun h2 =>
      L_X5_begins_2 o0 k n h2 (x1 + 1)
noncomputable def L_X5_begins_23 {β : Type} (o0 : Nat) (k : AH → Int32 → Option (β)) : Nat → AH → Int32 → Option (β)
  | 0, _, _ => none
  | n + 1, h, x1 =>
    if 8 ≤ x1 then
      k h x1
    else
      Option.bind (gtR h o0 5 2) fun r1 =>
      Option.bind (gtR h o0 5 0) fun r2 =>
      Option.bind (ldA h r2 10 (1 + x1)) fun v3 =>
      Option.bind (stA h r1 10 (2 + x1) v3) fun h4 =>
      Option.bind (gtR h4 o0 5 2) fun r5 =>
      Option.bind (gtR h4 o0 5 0) fun r6 =>
      Option.bind (ldA h4 r6 10 (9 + x1)) fun v7 =>
      Option.bind (stA h4 r5 10 (10 + x1) v7) fun h8 =>
      Option.bind (gtR h8 o0 5 2) fun r9 =>
      Option.bind (stA h8 r9 10 (18 + x1) (-1)) fun h10 =>
      L_X5_begins_23 o0 k n h10 (x1 + 1)
noncomputable def L_X5_begins_81 {β : Type} (o0 : Nat) (k : AH → Int32 → Option (β)) : Nat → AH → Int32 → Option (β)
  | 0, _, _ => none
  | n + 1, h, x1 =>
    if 5 ≤ x1 then
      k h x1
    else
      Option.bind (gtR h o0 5 2) fun r1 =>
      Option.bind (stA h r1 10 (34 + x1) (-1)) fun h2 =>
      L_X5_begins_81 o0 k n h2 (x1 + 1)
noncomputable def F_X5_begins (h : AH) (o : Nat) : Option (AH) :=
  Option.bind (ckO h o 5) fun _ =>
  L_X5_begins_2 o (fun h3 y4 =>
    L_X5_begins_23 o (fun h11 y12 =>
      L_X5_begins_81 o (fun h13 y14 =>
        Option.bind (ptI h13 o 5 4 0) fun h15 =>
        Option.bind (gtR h15 o 5 6) fun r16 =>
        Option.bind (stA h15 r16 12 0 (vp_nar .boolean 0)) fun h17 =>
        Option.bind (gtR h17 o 5 6) fun r18 =>
        Option.bind (stA h17 r18 12 1 (vp_nar .boolean 0)) fun h19 =>
        Option.bind (ptI h19 o 5 10 0) fun h20 =>
        some h20
      ) FU h11 0
    ) FU h3 0
  ) FU h 0
noncomputable def F_X5_init (h : AH) (o : Nat) : Option (AH) :=
  Option.bind (some (sN h 10 50)) fun h1 =>
  Option.bind (ptR h1 o 5 0 (hN h)) fun h2 =>
  Option.bind (some (sN h2 10 50)) fun h3 =>
  Option.bind (ptR h3 o 5 1 (hN h2)) fun h4 =>
  Option.bind (some (sN h4 10 52)) fun h5 =>
  Option.bind (ptR h5 o 5 2 (hN h4)) fun h6 =>
  Option.bind (some (sN h6 10 416)) fun h7 =>
  Option.bind (ptR h7 o 5 3 (hN h6)) fun h8 =>
  Option.bind (some (sN h8 10 104)) fun h9 =>
  Option.bind (ptR h9 o 5 5 (hN h8)) fun h10 =>
  Option.bind (some (sN h10 12 2)) fun h11 =>
  Option.bind (ptR h11 o 5 6 (hN h10)) fun h12 =>
  Option.bind (some (sN h12 10 160)) fun h13 =>
  Option.bind (ptR h13 o 5 7 (hN h12)) fun h14 =>
  Option.bind (some (sN h14 10 18)) fun h15 =>
  Option.bind (ptR h15 o 5 9 (hN h14)) fun h16 =>
  Option.bind (some (sN h16 10 5)) fun h17 =>
  Option.bind (ptR h17 o 5 17 (hN h16)) fun h18 =>
  Option.bind (some (sN h18 10 5)) fun h19 =>
  Option.bind (ptR h19 o 5 18 (hN h18)) fun h20 =>
  Option.bind (some (sN h20 10 5)) fun h21 =>
  Option.bind (ptR h21 o 5 19 (hN h20)) fun h22 =>
  Option.bind (some (sN h22 10 52)) fun h23 =>
  Option.bind (ptR h23 o 5 20 (hN h22)) fun h24 =>
  Option.bind (gtR h24 o 5 0) fun r25 =>
  Option.bind (F_X5_blank h24 r25) fun h26 =>
  Option.bind (F_X5_begins h26 o) fun h27 =>
  some h27
noncomputable def F_X1_append (h : AH) (o : Nat) (x1 : Int32) : Option (AH) :=
  Option.bind (ckO h o 1) fun _ =>
  Option.bind (gtI h o 1 1) fun v1 =>
  if v1 < 160 then
    Option.bind (gtR h o 1 0) fun r2 =>
    Option.bind (gtI h o 1 1) fun v3 =>
    Option.bind (stA h r2 11 v3 (vp_nar .char x1)) fun h4 =>
    Option.bind (gtI h4 o 1 1) fun v5 =>
    Option.bind (ptI h4 o 1 1 (v5 + 1)) fun h6 =>
    some h6
  else
    some h
noncomputable def F_X4_write (h : AH) (o : Nat) (x1 : Int32) : Option (Int32 × AH) :=
  Option.bind (ckO h o 4) fun _ =>
  if x1 < 0 then
    some ((-3), h)
  else
    if x1 ≤ 255 then
      Option.bind (gtR h o 4 0) fun r1 =>
      Option.bind (gtI h r1 1 1) fun v2 =>
      if v2 < 160 then
        Option.bind (gtR h o 4 0) fun r3 =>
        Option.bind (F_X1_append h r3 (chI x1)) fun h4 =>
        Option.bind (gtR h4 o 4 0) fun r5 =>
        Option.bind (gtI h4 r5 1 1) fun v6 =>
        some (v6, h4)
      else
        some ((-5), h)
    else
      some ((-3), h)
noncomputable def F_X5_in (h : AH) (x0 : Int64) (x2 : Int64) (x4 : Int64) : Option (Int32) :=
  if (lg_cmp x0 x2) < 0 then
    some 0
  else
    if 0 < (lg_cmp x0 x4) then
      some 0
    else
      some 1
noncomputable def F_X5_write (h : AH) (o : Nat) (x1 : Int32) : Option (Int32 × AH) :=
  Option.bind (ckO h o 5) fun _ =>
  Option.bind (F_X5_in h x1.toInt64 0 255) fun v1 =>
  if ¬ v1 = 0 then
    Option.bind (gtI h o 5 8) fun v2 =>
    if ¬ v2 = 160 then
      Option.bind (gtR h o 5 7) fun r3 =>
      Option.bind (gtI h o 5 8) fun v4 =>
      Option.bind (stA h r3 10 v4 x1) fun h5 =>
      Option.bind (gtI h5 o 5 8) fun v6 =>
      Option.bind (ptI h5 o 5 8 (v6 + 1)) fun h7 =>
      Option.bind (gtI h7 o 5 8) fun v8 =>
      some (v8, h7)
    else
      some ((-5), h)
  else
    some ((-3), h)
noncomputable def F_X4_erase (h : AH) (o : Nat) : Option (Int32 × AH) :=
  Option.bind (ckO h o 4) fun _ =>
  Option.bind (gtR h o 4 0) fun r1 =>
  Option.bind (gtI h r1 1 1) fun v2 =>
  Option.bind (gtR h o 4 0) fun r3 =>
  Option.bind (ptI h r3 1 1 0) fun h4 =>
  some (v2, h4)
noncomputable def F_X5_erase (h : AH) (o : Nat) : Option (Int32 × AH) :=
  Option.bind (ckO h o 5) fun _ =>
  Option.bind (gtI h o 5 8) fun v1 =>
  Option.bind (ptI h o 5 8 0) fun h2 =>
  some (v1, h2)
noncomputable def F_X2_copyFrom (h : AH) (o : Nat) (o1 : Nat) : Option (AH) :=
  Option.bind (ckO h o 2) fun _ =>
  Option.bind (gtI h o1 2 0) fun v1 =>
  Option.bind (ptI h o 2 0 v1) fun h2 =>
  Option.bind (gtI h2 o1 2 1) fun v3 =>
  Option.bind (ptI h2 o 2 1 v3) fun h4 =>
  Option.bind (gtR h4 o1 2 2) fun r5 =>
  Option.bind (gtR h4 o 2 2) fun r6 =>
  Option.bind (cpA h4 r5 0 r6 0 8) fun h7 =>
  Option.bind (gtR h7 o1 2 3) fun r8 =>
  Option.bind (gtR h7 o 2 3) fun r9 =>
  Option.bind (cpA h7 r8 0 r9 0 8) fun h10 =>
  Option.bind (gtR h10 o1 2 4) fun r11 =>
  Option.bind (gtR h10 o 2 4) fun r12 =>
  Option.bind (cpA h10 r11 0 r12 0 8) fun h13 =>
  Option.bind (gtR h13 o1 2 5) fun r14 =>
  Option.bind (gtR h13 o 2 5) fun r15 =>
  Option.bind (cpA h13 r14 0 r15 0 5) fun h16 =>
  Option.bind (gtR h16 o1 2 6) fun r17 =>
  Option.bind (gtR h16 o 2 6) fun r18 =>
  Option.bind (cpA h16 r17 0 r18 0 5) fun h19 =>
  Option.bind (gtR h19 o1 2 7) fun r20 =>
  Option.bind (gtR h19 o 2 7) fun r21 =>
  Option.bind (cpA h19 r20 0 r21 0 14) fun h22 =>
  some h22
noncomputable def F_X1_isSmall (h : AH) (x0 : Int32) : Option (Int32) :=
  if x0 < 97 then
    some 0
  else
    if 122 < x0 then
      some 0
    else
      some 1
noncomputable def F_X1_isDigit (h : AH) (x0 : Int32) : Option (Int32) :=
  if x0 < 48 then
    some 0
  else
    if 57 < x0 then
      some 0
    else
      some 1
noncomputable def L_X1_nextToken_8 {β : Type} (o0 : Nat) (k : AH → Option (β)) : Nat → AH → Option (β)
  | 0, _ => none
  | n + 1, h =>
    Option.bind (gtI h o0 1 3) fun v1 =>
    Option.bind (gtI h o0 1 1) fun v2 =>
    if v2 ≤ v1 then
      k h
    else
      Option.bind (gtR h o0 1 0) fun r3 =>
      Option.bind (gtI h o0 1 3) fun v4 =>
      Option.bind (ldA h r3 11 v4) fun v5 =>
      if ¬ v5 = 32 then
        k h
      else
        Option.bind (gtI h o0 1 3) fun v6 =>
        Option.bind (ptI h o0 1 3 (v6 + 1)) fun h7 =>
        L_X1_nextToken_8 o0 k n h7
noncomputable def L_X1_nextToken_145 {β : Type} (o0 : Nat) (k : AH → Option (β)) : Nat → AH → Option (β)
  | 0, _ => none
  | n + 1, h =>
    Option.bind (gtI h o0 1 4) fun v1 =>
    Option.bind (gtI h o0 1 1) fun v2 =>
    if v2 ≤ v1 then
      k h
    else
      Option.bind (gtR h o0 1 0) fun r3 =>
      Option.bind (gtI h o0 1 4) fun v4 =>
      Option.bind (ldA h r3 11 v4) fun v5 =>
      Option.bind (F_X1_isDigit h v5) fun v6 =>
      if v6 = 0 then
        k h
      else
        Option.bind (gtI h o0 1 4) fun v7 =>
        Option.bind (ptI h o0 1 4 (v7 + 1)) fun h8 =>
        L_X1_nextToken_145 o0 k n h8
noncomputable def L_X1_nextToken_91 {β : Type} (o0 : Nat) (k : AH → Option (β)) : Nat → AH → Option (β)
  | 0, _ => none
  | n + 1, h =>
    Option.bind (gtI h o0 1 4) fun v1 =>
    Option.bind (gtI h o0 1 1) fun v2 =>
    if v2 ≤ v1 then
      k h
    else
      Option.bind (gtR h o0 1 0) fun r3 =>
      Option.bind (gtI h o0 1 4) fun v4 =>
      Option.bind (ldA h r3 11 v4) fun v5 =>
      Option.bind (F_X1_isSmall h v5) fun v6 =>
      if v6 = 0 then
        k h
      else
        Option.bind (gtI h o0 1 4) fun v7 =>
        Option.bind (ptI h o0 1 4 (v7 + 1)) fun h8 =>
        L_X1_nextToken_91 o0 k n h8
noncomputable def F_X1_nextToken (h : AH) (o : Nat) : Option (AH) :=
  Option.bind (ckO h o 1) fun _ =>
  Option.bind (gtI h o 1 4) fun v1 =>
  Option.bind (ptI h o 1 3 v1) fun h2 =>
  L_X1_nextToken_8 o (fun h8 =>
    Option.bind (gtI h8 o 1 3) fun v9 =>
    Option.bind (ptI h8 o 1 4 v9) fun h10 =>
    Option.bind (gtI h10 o 1 3) fun v11 =>
    Option.bind (gtI h10 o 1 1) fun v12 =>
    if v11 < v12 then
      Option.bind (gtI h10 o 1 4) fun v13 =>
      Option.bind (ptI h10 o 1 4 (v13 + 1)) fun h14 =>
      Option.bind (gtR h14 o 1 0) fun r15 =>
      Option.bind (gtI h14 o 1 3) fun v16 =>
      Option.bind (ldA h14 r15 11 v16) fun v17 =>
      Option.bind (F_X1_isSmall h14 v17) fun v18 =>
      if v18 = 0 then
        Option.bind (gtR h14 o 1 0) fun r19 =>
        Option.bind (gtI h14 o 1 3) fun v20 =>
        Option.bind (ldA h14 r19 11 v20) fun v21 =>
        Option.bind (F_X1_isDigit h14 v21) fun v22 =>
        if v22 = 0 then
          some h14
        else
          L_X1_nextToken_145 o (fun h23 =>
            some h23
          ) FU h14
      else
        L_X1_nextToken_91 o (fun h24 =>
          some h24
        ) FU h14
    else
      some h10
  ) FU h2
noncomputable def L_X1_reads_20 (h : AH) (o0 : Nat) (x1 : Nat) (k : Int32 → Option (Int32)) : Nat → Int32 → Option (Int32)
  | 0, _ => none
  | n + 1, x2 =>
    if (nI (stL.getD x1 0)) ≤ x2 then
      k x2
    else
      Option.bind (gtR h o0 1 0) fun r1 =>
      Option.bind (gtI h o0 1 3) fun v2 =>
      Option.bind (ldA h r1 11 (v2 + x2)) fun v3 =>
      Option.bind (sAt x1 x2) fun v4 =>
      if v3 = v4 then
        L_X1_reads_20 h o0 x1 k n (x2 + 1)
      else
        some 0
noncomputable def F_X1_reads (h : AH) (o : Nat) (x1 : Nat) : Option (Int32) :=
  Option.bind (ckO h o 1) fun _ =>
  Option.bind (gtI h o 1 4) fun v1 =>
  Option.bind (gtI h o 1 3) fun v2 =>
  if (v1 - v2) = (nI (stL.getD x1 0)) then
    L_X1_reads_20 h o x1 (fun y5 =>
      some 1
    ) FU 0
  else
    some 0
noncomputable def F_X2_clearNews (h : AH) (o : Nat) : Option (AH) :=
  Option.bind (ckO h o 2) fun _ =>
  Option.bind (gtR h o 2 7) fun r1 =>
  Option.bind (F_J7_fill_53178 h r1 (-1)) fun h2 =>
  some h2
noncomputable def F_X2_clear (h : AH) (o : Nat) : Option (AH) :=
  Option.bind (ckO h o 2) fun _ =>
  Option.bind (ptI h o 2 0 0) fun h1 =>
  Option.bind (ptI h1 o 2 1 0) fun h2 =>
  Option.bind (F_X2_clearNews h2 o) fun h3 =>
  some h3
noncomputable def L_X1_nextNumber_49 {β : Type} (h : AH) (o0 : Nat) (x1 : Int32) (x2 : Int32) (k : Int32 → Int32 → Option (β)) : Nat → Int32 → Int32 → Option (β)
  | 0, _, _ => none
  | n + 1, x3, x4 =>
    Option.bind (gtI h o0 1 4) fun v1 =>
    if v1 ≤ x4 then
      k x3 x4
    else
      Option.bind (gtR h o0 1 0) fun r2 =>
      Option.bind (ldA h r2 11 x4) fun v3 =>
      L_X1_nextNumber_49 h o0 x1 x2 k n ((10 * x3) + (v3 - 48)) (x4 + 1)
noncomputable def F_X1_nextNumber (h : AH) (o : Nat) (x1 : Int32) : Option (Int32 × AH) :=
  Option.bind (ckO h o 1) fun _ =>
  Option.bind (F_X1_nextToken h o) fun h1 =>
  Option.bind (gtI h1 o 1 4) fun v2 =>
  Option.bind (gtI h1 o 1 3) fun v3 =>
  if (v2 - v3) < 1 then
    some ((-1), h1)
  else
    if 2 < (v2 - v3) then
      some ((-1), h1)
    else
      Option.bind (gtR h1 o 1 0) fun r4 =>
      Option.bind (gtI h1 o 1 3) fun v5 =>
      Option.bind (ldA h1 r4 11 v5) fun v6 =>
      Option.bind (F_X1_isDigit h1 v6) fun v7 =>
      if ¬ v7 = 0 then
        Option.bind (gtI h1 o 1 3) fun v8 =>
        L_X1_nextNumber_49 h1 o x1 (v2 - v3) (fun y9 y10 =>
          if x1 < y9 then
            some ((-1), h1)
          else
            some (y9, h1)
        ) FU 0 v8
      else
        some ((-1), h1)
noncomputable def F_X2_addPlace (h : AH) (o : Nat) (x1 : Int32) (x2 : Int32) (x3 : Int32) : Option (AH) :=
  Option.bind (ckO h o 2) fun _ =>
  Option.bind (gtI h o 2 0) fun v1 =>
  if v1 < 8 then
    Option.bind (gtR h o 2 2) fun r2 =>
    Option.bind (gtI h o 2 0) fun v3 =>
    Option.bind (stA h r2 10 v3 x1) fun h4 =>
    Option.bind (gtR h4 o 2 3) fun r5 =>
    Option.bind (gtI h4 o 2 0) fun v6 =>
    Option.bind (stA h4 r5 10 v6 x2) fun h7 =>
    Option.bind (gtR h7 o 2 4) fun r8 =>
    Option.bind (gtI h7 o 2 0) fun v9 =>
    Option.bind (stA h7 r8 10 v9 x3) fun h10 =>
    Option.bind (gtI h10 o 2 0) fun v11 =>
    Option.bind (ptI h10 o 2 0 (v11 + 1)) fun h12 =>
    some h12
  else
    some h
noncomputable def F_X1_readPlace (h : AH) (o : Nat) (o1 : Nat) : Option (Int32 × AH) :=
  Option.bind (ckO h o 1) fun _ =>
  Option.bind (F_X1_nextNumber h o 7) fun q1 =>
  if ¬ q1.1 = (-1) then
    Option.bind (F_X1_nextNumber q1.2 o 9) fun q2 =>
    if ¬ q2.1 = (-1) then
      Option.bind (F_X1_nextNumber q2.2 o 9) fun q3 =>
      if ¬ q3.1 = (-1) then
        Option.bind (F_X2_addPlace q3.2 o1 q1.1 q2.1 q3.1) fun h4 =>
        some (1, h4)
      else
        some (0, q3.2)
    else
      some (0, q2.2)
  else
    some (0, q1.2)
noncomputable def F_X1_readNews (h : AH) (o : Nat) (o1 : Nat) : Option (Int32 × AH) :=
  Option.bind (ckO h o 1) fun _ =>
  Option.bind (F_X1_nextNumber h o 13) fun q1 =>
  if ¬ q1.1 = (-1) then
    Option.bind (F_X1_nextNumber q1.2 o 7) fun q2 =>
    if ¬ q2.1 = (-1) then
      Option.bind (gtR q2.2 o1 2 7) fun r3 =>
      Option.bind (stA q2.2 r3 10 q1.1 q2.1) fun h4 =>
      some (1, h4)
    else
      some (0, q2.2)
  else
    some (0, q1.2)
noncomputable def F_X1_kindRead (h : AH) (o : Nat) : Option (Int32) :=
  Option.bind (ckO h o 1) fun _ =>
  Option.bind (F_X1_reads h o 4) fun v1 =>
  if v1 = 0 then
    Option.bind (F_X1_reads h o 5) fun v2 =>
    if v2 = 0 then
      Option.bind (F_X1_reads h o 6) fun v3 =>
      if v3 = 0 then
        Option.bind (F_X1_reads h o 7) fun v4 =>
        if v4 = 0 then
          some (-1)
        else
          some 3
      else
        some 2
    else
      some 1
  else
    some 0
noncomputable def F_X2_addHen (h : AH) (o : Nat) (x1 : Int32) (x2 : Int32) : Option (AH) :=
  Option.bind (ckO h o 2) fun _ =>
  Option.bind (gtI h o 2 1) fun v1 =>
  if v1 < 5 then
    Option.bind (gtR h o 2 5) fun r2 =>
    Option.bind (gtI h o 2 1) fun v3 =>
    Option.bind (stA h r2 10 v3 x1) fun h4 =>
    Option.bind (gtR h4 o 2 6) fun r5 =>
    Option.bind (gtI h4 o 2 1) fun v6 =>
    Option.bind (stA h4 r5 10 v6 x2) fun h7 =>
    Option.bind (gtI h7 o 2 1) fun v8 =>
    Option.bind (ptI h7 o 2 1 (v8 + 1)) fun h9 =>
    some h9
  else
    some h
noncomputable def F_X1_readHen (h : AH) (o : Nat) (o1 : Nat) (x2 : Int32) : Option (Int32 × AH) :=
  Option.bind (ckO h o 1) fun _ =>
  Option.bind (F_X1_nextNumber h o 9) fun q1 =>
  if ¬ q1.1 = (-1) then
    Option.bind (F_X2_addHen q1.2 o1 x2 q1.1) fun h2 =>
    some (1, h2)
  else
    some (0, q1.2)
noncomputable def F_X1_readClause (h : AH) (o : Nat) (o1 : Nat) : Option (Int32 × AH) :=
  Option.bind (ckO h o 1) fun _ =>
  Option.bind (F_X1_nextToken h o) fun h1 =>
  Option.bind (F_X1_reads h1 o 0) fun v2 =>
  if v2 = 0 then
    Option.bind (F_X1_reads h1 o 1) fun v3 =>
    if v3 = 0 then
      Option.bind (F_X1_reads h1 o 2) fun v4 =>
      if v4 = 0 then
        Option.bind (F_X1_reads h1 o 3) fun v5 =>
        if v5 = 0 then
          Option.bind (F_X1_kindRead h1 o) fun v6 =>
          if v6 = (-1) then
            some (0, h1)
          else
            Option.bind (gtI h1 o1 2 1) fun v7 =>
            if 5 ≤ v7 then
              some (0, h1)
            else
              Option.bind (F_X1_readHen h1 o o1 v6) fun q8 =>
              if q8.1 = 0 then
                some (0, q8.2)
              else
                some (1, q8.2)
        else
          Option.bind (F_X1_readNews h1 o o1) fun q9 =>
          Option.bind (bz q9.1) fun v10 => some (v10, q9.2)
      else
        Option.bind (gtI h1 o1 2 0) fun v11 =>
        if 8 ≤ v11 then
          some (0, h1)
        else
          Option.bind (F_X1_readPlace h1 o o1) fun q12 =>
          if q12.1 = 0 then
            some (0, q12.2)
          else
            some (1, q12.2)
    else
      Option.bind (F_X2_clearNews h1 o1) fun h13 =>
      some (1, h13)
  else
    Option.bind (F_X2_clear h1 o1) fun h14 =>
    some (1, h14)
noncomputable def L_X1_readInto_12 (o0 : Nat) (o1 : Nat) (k : AH → Int32 → Option (Int32 × AH)) : Nat → AH → Int32 → Option (Int32 × AH)
  | 0, _, _ => none
  | n + 1, h, x2 =>
    if 14 ≤ x2 then
      k h x2
    else
      Option.bind (F_X1_readClause h o0 o1) fun q1 =>
      if ¬ q1.1 = 0 then
        Option.bind (gtI q1.2 o0 1 2) fun v2 =>
        Option.bind (ptI q1.2 o0 1 2 (v2 + 1)) fun h3 =>
        Option.bind (F_X1_nextToken h3 o0) fun h4 =>
        Option.bind (gtI h4 o0 1 3) fun v5 =>
        Option.bind (gtI h4 o0 1 1) fun v6 =>
        if v5 < v6 then
          Option.bind (gtR h4 o0 1 0) fun r7 =>
          Option.bind (gtI h4 o0 1 3) fun v8 =>
          Option.bind (ldA h4 r7 11 v8) fun v9 =>
          if v9 = 59 then
            L_X1_readInto_12 o0 o1 k n h4 (x2 + 1)
          else
            Option.bind (gtI h4 o0 1 3) fun v10 =>
            some (v10, h4)
        else
          some ((-1), h4)
      else
        Option.bind (gtI q1.2 o0 1 3) fun v11 =>
        some (v11, q1.2)
noncomputable def F_X1_readInto (h : AH) (o : Nat) (o1 : Nat) : Option (Int32 × AH) :=
  Option.bind (ckO h o 1) fun _ =>
  Option.bind (ptI h o 1 2 0) fun h1 =>
  Option.bind (ptI h1 o 1 4 0) fun h2 =>
  L_X1_readInto_12 o o1 (fun h12 y13 =>
    Option.bind (gtI h12 o 1 3) fun v14 =>
    some (v14, h12)
  ) FU h2 0
noncomputable def F_X4_fault (h : AH) (o : Nat) : Option (Int32 × AH) :=
  Option.bind (ckO h o 4) fun _ =>
  Option.bind (gtR h o 4 2) fun r1 =>
  Option.bind (gtR h o 4 1) fun r2 =>
  Option.bind (F_X2_copyFrom h r1 r2) fun h3 =>
  Option.bind (gtR h3 o 4 0) fun r4 =>
  Option.bind (gtR h3 o 4 2) fun r5 =>
  Option.bind (F_X1_readInto h3 r4 r5) fun q6 =>
  some (q6.1, q6.2)
noncomputable def L_X5_copies_3 {β : Type} (o0 : Nat) (x1 : Int32) (o2 : Nat) (x3 : Int32) (x4 : Int32) (k : AH → Int32 → Option (β)) : Nat → AH → Int32 → Option (β)
  | 0, _, _ => none
  | n + 1, h, x5 =>
    if x4 ≤ x5 then
      k h x5
    else
      Option.bind (ldA h o0 10 (x1 + x5)) fun v1 =>
      Option.bind (stA h o2 10 (x3 + x5) v1) fun h2 =>
      L_X5_copies_3 o0 x1 o2 x3 x4 k n h2 (x5 + 1)
noncomputable def F_X5_copies (h : AH) (o0 : Nat) (x1 : Int32) (o2 : Nat) (x3 : Int32) (x4 : Int32) : Option (AH) :=
  L_X5_copies_3 o0 x1 o2 x3 x4 (fun h3 y4 =>
    some h3
  ) FU h 0
noncomputable def F_X5_here (h : AH) (o : Nat) : Option (Int32) :=
  Option.bind (ckO h o 5) fun _ =>
  Option.bind (gtI h o 5 11) fun v1 =>
  Option.bind (gtI h o 5 8) fun v2 =>
  if v2 ≤ v1 then
    some (-1)
  else
    Option.bind (gtR h o 5 7) fun r3 =>
    Option.bind (gtI h o 5 11) fun v4 =>
    Option.bind (ldA h r3 10 v4) fun v5 =>
    some v5
noncomputable def L_X5_step_0 {β : Type} (o0 : Nat) (k : AH → Option (β)) : Nat → AH → Option (β)
  | 0, _ => none
  | n + 1, h =>
    Option.bind (F_X5_here h o0) fun v1 =>
    if ¬ v1 = 32 then
      k h
    else
      Option.bind (gtI h o0 5 11) fun v2 =>
      Option.bind (ptI h o0 5 11 (v2 + 1)) fun h3 =>
      L_X5_step_0 o0 k n h3
noncomputable def L_X5_step_122 {β : Type} (o0 : Nat) (x1 : Int32) (k : AH → Option (β)) : Nat → AH → Option (β)
  | 0, _ => none
  | n + 1, h =>
    Option.bind (gtI h o0 5 13) fun v1 =>
    if ¬ v1 = 1 then
      k h
    else
      Option.bind (F_X5_here h o0) fun v2 =>
      Option.bind (F_X5_in h v2.toInt64 97 122) fun v3 =>
      if v3 = 0 then
        k h
      else
        Option.bind (gtI h o0 5 11) fun v4 =>
        Option.bind (gtI h o0 5 12) fun v5 =>
        Option.bind (α := Int64) (
          if 7 ≤ (v4 - v5) then
            some (-1)
          else
            Option.bind (gtL h o0 5 14) fun v7 =>
            Option.bind (F_X5_here h o0) fun v8 =>
            some ((v7 * 256) + v8.toInt64)
        ) fun q6 =>
        Option.bind (ptL h o0 5 14 q6) fun h9 =>
        Option.bind (gtI h9 o0 5 11) fun v10 =>
        Option.bind (ptI h9 o0 5 11 (v10 + 1)) fun h11 =>
        L_X5_step_122 o0 x1 k n h11
noncomputable def L_X5_step_198 {β : Type} (o0 : Nat) (x1 : Int32) (k : AH → Option (β)) : Nat → AH → Option (β)
  | 0, _ => none
  | n + 1, h =>
    Option.bind (gtI h o0 5 13) fun v1 =>
    if ¬ v1 = 2 then
      k h
    else
      Option.bind (F_X5_here h o0) fun v2 =>
      Option.bind (F_X5_in h v2.toInt64 48 57) fun v3 =>
      if v3 = 0 then
        k h
      else
        Option.bind (gtI h o0 5 11) fun v4 =>
        Option.bind (gtI h o0 5 12) fun v5 =>
        Option.bind (α := Int32) (
          if 2 ≤ (v4 - v5) then
            Option.bind (gtI h o0 5 15) fun v7 =>
            some v7
          else
            Option.bind (gtI h o0 5 15) fun v8 =>
            Option.bind (F_X5_here h o0) fun v9 =>
            some (((10 * v8) + v9) - 48)
        ) fun q6 =>
        Option.bind (ptI h o0 5 15 q6) fun h10 =>
        Option.bind (gtI h10 o0 5 11) fun v11 =>
        Option.bind (ptI h10 o0 5 11 (v11 + 1)) fun h12 =>
        L_X5_step_198 o0 x1 k n h12
noncomputable def F_X5_step (h : AH) (o : Nat) : Option (AH) :=
  Option.bind (ckO h o 5) fun _ =>
  L_X5_step_0 o (fun h4 =>
    Option.bind (gtI h4 o 5 11) fun v5 =>
    Option.bind (ptI h4 o 5 12 v5) fun h6 =>
    Option.bind (ptL h6 o 5 14 0) fun h7 =>
    Option.bind (ptI h7 o 5 15 0) fun h8 =>
    Option.bind (F_X5_here h8 o) fun v9 =>
    Option.bind (α := Int32) (
      if 0 ≤ v9 then
        Option.bind (F_X5_in h8 v9.toInt64 97 122) fun v11 =>
        if v11 = 0 then
          Option.bind (F_X5_in h8 v9.toInt64 48 57) fun v12 =>
          if v12 = 0 then
            if ¬ v9 = 59 then
              some 4
            else
              some 3
          else
            some 2
        else
          some 1
      else
        some 0
    ) fun q10 =>
    Option.bind (ptI h8 o 5 13 q10) fun h13 =>
    Option.bind (gtI h13 o 5 13) fun v14 =>
    Option.bind (α := AH) (
      if v14 ≤ 2 then
        some h13
      else
        Option.bind (gtI h13 o 5 11) fun v16 =>
        Option.bind (ptI h13 o 5 11 (v16 + 1)) fun h17 =>
        some h17
    ) fun q15 =>
    L_X5_step_122 o v9 (fun h18 =>
      L_X5_step_198 o v9 (fun h19 =>
        Option.bind (gtI h19 o 5 13) fun v20 =>
        if ¬ v20 = 2 then
          Option.bind (gtI h19 o 5 13) fun v21 =>
          Option.bind (ptI h19 o 5 13 v21) fun h22 =>
          some h22
        else
          Option.bind (gtI h19 o 5 11) fun v23 =>
          Option.bind (gtI h19 o 5 12) fun v24 =>
          if (v23 - v24) ≤ 2 then
            Option.bind (gtI h19 o 5 13) fun v25 =>
            Option.bind (ptI h19 o 5 13 v25) fun h26 =>
            some h26
          else
            Option.bind (ptI h19 o 5 13 4) fun h27 =>
            some h27
      ) FU h18
    ) FU q15
  ) FU h
noncomputable def F_X5_anew (h : AH) (o : Nat) : Option (Int32 × AH) :=
  Option.bind (ckO h o 5) fun _ =>
  Option.bind (gtR h o 5 1) fun r1 =>
  Option.bind (F_X5_blank h r1) fun h2 =>
  some (1, h2)
noncomputable def F_X5_number (h : AH) (o : Nat) (x1 : Int32) : Option (Int32 × AH) :=
  Option.bind (ckO h o 5) fun _ =>
  Option.bind (F_X5_step h o) fun h1 =>
  Option.bind (gtI h1 o 5 13) fun v2 =>
  if ¬ v2 = 2 then
    some (0, h1)
  else
    Option.bind (gtI h1 o 5 15) fun v3 =>
    if x1 < v3 then
      some (0, h1)
    else
      some (1, h1)
noncomputable def F_X5_readsPlace (h : AH) (o : Nat) : Option (Int32 × AH) :=
  Option.bind (ckO h o 5) fun _ =>
  Option.bind (gtR h o 5 1) fun r1 =>
  Option.bind (ldA h r1 10 0) fun v2 =>
  if v2 = 8 then
    some (0, h)
  else
    Option.bind (F_X5_number h o 7) fun q3 =>
    if ¬ q3.1 = 0 then
      Option.bind (gtR q3.2 o 5 1) fun r4 =>
      Option.bind (gtI q3.2 o 5 15) fun v5 =>
      Option.bind (stA q3.2 r4 10 (1 + v2) v5) fun h6 =>
      Option.bind (F_X5_number h6 o 9) fun q7 =>
      if ¬ q7.1 = 0 then
        Option.bind (gtR q7.2 o 5 1) fun r8 =>
        Option.bind (gtI q7.2 o 5 15) fun v9 =>
        Option.bind (stA q7.2 r8 10 (9 + v2) v9) fun h10 =>
        Option.bind (F_X5_number h10 o 9) fun q11 =>
        if ¬ q11.1 = 0 then
          Option.bind (gtR q11.2 o 5 1) fun r12 =>
          Option.bind (gtI q11.2 o 5 15) fun v13 =>
          Option.bind (stA q11.2 r12 10 (17 + v2) v13) fun h14 =>
          Option.bind (gtR h14 o 5 1) fun r15 =>
          Option.bind (ldA h14 r15 10 0) fun v16 =>
          Option.bind (stA h14 r15 10 0 (v16 + 1)) fun h17 =>
          some (1, h17)
        else
          some (0, q11.2)
      else
        some (0, q7.2)
    else
      some (0, q3.2)
noncomputable def F_X5_readsNews (h : AH) (o : Nat) : Option (Int32 × AH) :=
  Option.bind (ckO h o 5) fun _ =>
  Option.bind (F_X5_number h o 13) fun q1 =>
  if ¬ q1.1 = 0 then
    Option.bind (gtI q1.2 o 5 15) fun v2 =>
    Option.bind (F_X5_number q1.2 o 7) fun q3 =>
    if ¬ q3.1 = 0 then
      Option.bind (gtR q3.2 o 5 1) fun r4 =>
      Option.bind (gtI q3.2 o 5 15) fun v5 =>
      Option.bind (stA q3.2 r4 10 (36 + v2) v5) fun h6 =>
      some (1, h6)
    else
      some (0, q3.2)
  else
    some (0, q1.2)
noncomputable def L_X5_calm_2 {β : Type} (o0 : Nat) (k : AH → Int32 → Option (β)) : Nat → AH → Int32 → Option (β)
  | 0, _, _ => none
  | n + 1, h, x1 =>
    if 14 ≤ x1 then
      k h x1
    else
      Option.bind (gtR h o0 5 1) fun r1 =>
      Option.bind (stA h r1 10 (36 + x1) (-1)) fun h2 =>
      L_X5_calm_2 o0 k n h2 (x1 + 1)
noncomputable def F_X5_calm (h : AH) (o : Nat) : Option (Int32 × AH) :=
  Option.bind (ckO h o 5) fun _ =>
  L_X5_calm_2 o (fun h3 y4 =>
    some (1, h3)
  ) FU h 0
noncomputable def F_X5_readsHen (h : AH) (o : Nat) (x1 : Int32) : Option (Int32 × AH) :=
  Option.bind (ckO h o 5) fun _ =>
  Option.bind (gtR h o 5 1) fun r1 =>
  Option.bind (ldA h r1 10 25) fun v2 =>
  if v2 = 5 then
    some (0, h)
  else
    Option.bind (F_X5_number h o 9) fun q3 =>
    if ¬ q3.1 = 0 then
      Option.bind (gtR q3.2 o 5 1) fun r4 =>
      Option.bind (stA q3.2 r4 10 (26 + v2) x1) fun h5 =>
      Option.bind (gtR h5 o 5 1) fun r6 =>
      Option.bind (gtI h5 o 5 15) fun v7 =>
      Option.bind (stA h5 r6 10 (31 + v2) v7) fun h8 =>
      Option.bind (gtR h8 o 5 1) fun r9 =>
      Option.bind (ldA h8 r9 10 25) fun v10 =>
      Option.bind (stA h8 r9 10 25 (v10 + 1)) fun h11 =>
      some (1, h11)
    else
      some (0, q3.2)
noncomputable def F_X5_readsClause (h : AH) (o : Nat) : Option (Int32 × AH) :=
  Option.bind (ckO h o 5) fun _ =>
  Option.bind (gtI h o 5 13) fun v1 =>
  if v1 = 1 then
    Option.bind (gtL h o 5 14) fun v2 =>
    if ¬ (lg_cmp v2 2036429412) = 0 then
      if ¬ (lg_cmp v2 482854658917) = 0 then
        if ¬ (lg_cmp v2 1852143475) = 0 then
          if ¬ (lg_cmp v2 1667329133) = 0 then
            Option.bind (α := Int32) (
              if ¬ (lg_cmp v2 465491813746) = 0 then
                if ¬ (lg_cmp v2 108243635364985) = 0 then
                  if ¬ (lg_cmp v2 123649632527732) = 0 then
                    if ¬ (lg_cmp v2 426953502305) = 0 then
                      some (-1)
                    else
                      some 3
                  else
                    some 2
                else
                  some 1
              else
                some 0
            ) fun q3 =>
            if q3 < 0 then
              some (0, h)
            else
              Option.bind (F_X5_readsHen h o q3) fun q4 =>
              if q4.1 = 0 then
                some (0, q4.2)
              else
                some (1, q4.2)
          else
            Option.bind (F_X5_calm h o) fun q5 =>
            Option.bind (bz q5.1) fun v6 => some (v6, q5.2)
        else
          Option.bind (F_X5_readsNews h o) fun q7 =>
          Option.bind (bz q7.1) fun v8 => some (v8, q7.2)
      else
        Option.bind (F_X5_readsPlace h o) fun q9 =>
        Option.bind (bz q9.1) fun v10 => some (v10, q9.2)
    else
      Option.bind (F_X5_anew h o) fun q11 =>
      Option.bind (bz q11.1) fun v12 => some (v12, q11.2)
  else
    some (0, h)
noncomputable def L_X5_reads_27 (o0 : Nat) (k : AH → Int32 → Option (Int32 × AH)) : Nat → AH → Int32 → Option (Int32 × AH)
  | 0, _, _ => none
  | n + 1, h, x1 =>
    if x1 = 0 then
      k h x1
    else
      Option.bind (F_X5_step h o0) fun h1 =>
      Option.bind (F_X5_readsClause h1 o0) fun q2 =>
      if ¬ q2.1 = 0 then
        Option.bind (gtI q2.2 o0 5 16) fun v3 =>
        Option.bind (ptI q2.2 o0 5 16 (v3 + 1)) fun h4 =>
        Option.bind (F_X5_step h4 o0) fun h5 =>
        Option.bind (gtI h5 o0 5 13) fun v6 =>
        Option.bind (α := Int32) (
          if ¬ v6 = 3 then
            some 0
          else
            Option.bind (gtI h5 o0 5 16) fun v8 =>
            if 14 ≤ v8 then
              some 0
            else
              some 1
        ) fun q7 =>
        L_X5_reads_27 o0 k n h5 q7
      else
        Option.bind (gtI q2.2 o0 5 12) fun v9 =>
        some (v9, q2.2)
noncomputable def F_X5_reads (h : AH) (o : Nat) : Option (Int32 × AH) :=
  Option.bind (ckO h o 5) fun _ =>
  Option.bind (gtR h o 5 0) fun r1 =>
  Option.bind (gtR h o 5 1) fun r2 =>
  Option.bind (F_X5_copies h r1 0 r2 0 50) fun h3 =>
  Option.bind (ptI h3 o 5 11 0) fun h4 =>
  Option.bind (ptI h4 o 5 16 0) fun h5 =>
  L_X5_reads_27 o (fun h10 y11 =>
    Option.bind (gtI h10 o 5 13) fun v12 =>
    if ¬ v12 = 0 then
      Option.bind (gtI h10 o 5 12) fun v13 =>
      some (v13, h10)
    else
      some ((-1), h10)
  ) FU h5 1
noncomputable def F_X5_fault (h : AH) (o : Nat) : Option (Int32 × AH) :=
  Option.bind (ckO h o 5) fun _ =>
  Option.bind (F_X5_reads h o) fun q1 =>
  some (q1.1, q1.2)
noncomputable def F_X3_beginAs (h : AH) (o : Nat) (o1 : Nat) : Option (AH) :=
  Option.bind (ckO h o 3) fun _ =>
  Option.bind (gtR h o1 2 2) fun r1 =>
  Option.bind (gtR h o 3 0) fun r2 =>
  Option.bind (cpA h r1 0 r2 0 8) fun h3 =>
  Option.bind (gtR h3 o1 2 3) fun r4 =>
  Option.bind (gtR h3 o 3 1) fun r5 =>
  Option.bind (cpA h3 r4 0 r5 0 8) fun h6 =>
  Option.bind (gtR h6 o1 2 5) fun r7 =>
  Option.bind (gtR h6 o 3 4) fun r8 =>
  Option.bind (cpA h6 r7 0 r8 0 5) fun h9 =>
  Option.bind (gtR h9 o1 2 6) fun r10 =>
  Option.bind (gtR h9 o 3 5) fun r11 =>
  Option.bind (cpA h9 r10 0 r11 0 5) fun h12 =>
  Option.bind (gtR h12 o 3 2) fun r13 =>
  Option.bind (F_J7_fill_53178 h12 r13 (-1)) fun h14 =>
  Option.bind (gtR h14 o 3 6) fun r15 =>
  Option.bind (F_J7_fill_53178 h14 r15 (-1)) fun h16 =>
  Option.bind (gtR h16 o 3 7) fun r17 =>
  Option.bind (F_J7_fill_53178 h16 r17 0) fun h18 =>
  Option.bind (gtR h18 o 3 8) fun r19 =>
  Option.bind (F_J7_fill_53178 h18 r19 0) fun h20 =>
  Option.bind (ptI h20 o 3 9 0) fun h21 =>
  Option.bind (ptZ h21 o 3 10 0) fun h22 =>
  Option.bind (ptI h22 o 3 11 0) fun h23 =>
  Option.bind (ptI h23 o 3 12 0) fun h24 =>
  Option.bind (ptI h24 o 3 13 0) fun h25 =>
  some h25
noncomputable def L_X4_yard_74 {β : Type} (o0 : Nat) (k : AH → Int32 → Option (β)) : Nat → AH → Int32 → Option (β)
  | 0, _, _ => none
  | n + 1, h, x1 =>
    if 2 ≤ x1 then
      k h x1
    else
      Option.bind (gtR h o0 4 8) fun r1 =>
      Option.bind (stA h r1 12 x1 (vp_nar .boolean 0)) fun h2 =>
      L_X4_yard_74 o0 k n h2 (x1 + 1)
noncomputable def F_X4_yard (h : AH) (o : Nat) : Option (Int32 × AH) :=
  Option.bind (ckO h o 4) fun _ =>
  Option.bind (gtR h o 4 2) fun r1 =>
  Option.bind (gtR h o 4 1) fun r2 =>
  Option.bind (F_X2_copyFrom h r1 r2) fun h3 =>
  Option.bind (gtR h3 o 4 0) fun r4 =>
  Option.bind (gtR h3 o 4 2) fun r5 =>
  Option.bind (F_X1_readInto h3 r4 r5) fun q6 =>
  if q6.1 = (-1) then
    Option.bind (gtR q6.2 o 4 1) fun r7 =>
    Option.bind (gtR q6.2 o 4 2) fun r8 =>
    Option.bind (F_X2_copyFrom q6.2 r7 r8) fun h9 =>
    Option.bind (gtR h9 o 4 0) fun r10 =>
    Option.bind (ptI h9 r10 1 1 0) fun h11 =>
    Option.bind (gtR h11 o 4 3) fun r12 =>
    Option.bind (gtR h11 o 4 1) fun r13 =>
    Option.bind (F_X3_beginAs h11 r12 r13) fun h14 =>
    Option.bind (gtR h14 o 4 9) fun r15 =>
    Option.bind (ptI h14 r15 0 3 0) fun h16 =>
    Option.bind (ptI h16 o 4 6 0) fun h17 =>
    L_X4_yard_74 o (fun h18 y19 =>
      Option.bind (gtR h18 o 4 0) fun r20 =>
      Option.bind (gtI h18 r20 1 2) fun v21 =>
      some (v21, h18)
    ) FU h17 0
  else
    some ((-4), q6.2)
noncomputable def F_X5_yard (h : AH) (o : Nat) : Option (Int32 × AH) :=
  Option.bind (ckO h o 5) fun _ =>
  Option.bind (F_X5_reads h o) fun q1 =>
  if q1.1 = (-1) then
    Option.bind (gtR q1.2 o 5 1) fun r2 =>
    Option.bind (gtR q1.2 o 5 0) fun r3 =>
    Option.bind (F_X5_copies q1.2 r2 0 r3 0 50) fun h4 =>
    Option.bind (ptI h4 o 5 8 0) fun h5 =>
    Option.bind (F_X5_begins h5 o) fun h6 =>
    Option.bind (gtI h6 o 5 16) fun v7 =>
    some (v7, h6)
  else
    some ((-4), q1.2)
noncomputable def F_X4_isPlace (h : AH) (o : Nat) (x1 : Int32) : Option (Int32) :=
  Option.bind (ckO h o 4) fun _ =>
  if x1 < 0 then
    some 0
  else
    Option.bind (gtR h o 4 1) fun r1 =>
    Option.bind (gtI h r1 2 0) fun v2 =>
    if v2 ≤ x1 then
      some 0
    else
      some 1
noncomputable def F_X4_place (h : AH) (o : Nat) (x1 : Int32) (x2 : Int32) : Option (Int32) :=
  Option.bind (ckO h o 4) fun _ =>
  Option.bind (F_X4_isPlace h o x1) fun v1 =>
  if ¬ v1 = 0 then
    if x2 = 0 then
      Option.bind (gtR h o 4 3) fun r2 =>
      Option.bind (gtR h r2 3 0) fun r3 =>
      Option.bind (ldA h r3 10 x1) fun v4 =>
      some v4
    else if x2 = 1 then
      Option.bind (gtR h o 4 3) fun r5 =>
      Option.bind (gtR h r5 3 1) fun r6 =>
      Option.bind (ldA h r6 10 x1) fun v7 =>
      some v7
    else if x2 = 2 then
      Option.bind (gtR h o 4 1) fun r8 =>
      Option.bind (gtR h r8 2 4) fun r9 =>
      Option.bind (ldA h r9 10 x1) fun v10 =>
      some v10
    else if x2 = 3 then
      Option.bind (gtR h o 4 3) fun r11 =>
      Option.bind (gtR h r11 3 2) fun r12 =>
      Option.bind (ldA h r12 10 x1) fun v13 =>
      some v13
    else
      some (-3)
  else
    some (-2)
noncomputable def F_X5_isPlace (h : AH) (o : Nat) (x1 : Int32) : Option (Int32) :=
  Option.bind (ckO h o 5) fun _ =>
  Option.bind (gtR h o 5 0) fun r1 =>
  Option.bind (ldA h r1 10 0) fun v2 =>
  Option.bind (F_X5_in h x1.toInt64 0 (Int32.toInt64 (v2 - 1))) fun v3 =>
  Option.bind (bz v3) fun v4 => some v4
noncomputable def F_X5_place (h : AH) (o : Nat) (x1 : Int32) (x2 : Int32) : Option (Int32) :=
  Option.bind (ckO h o 5) fun _ =>
  Option.bind (F_X5_isPlace h o x1) fun v1 =>
  if ¬ v1 = 0 then
    if x2 = 0 then
      Option.bind (gtR h o 5 2) fun r2 =>
      Option.bind (ldA h r2 10 (2 + x1)) fun v3 =>
      some v3
    else if x2 = 1 then
      Option.bind (gtR h o 5 2) fun r4 =>
      Option.bind (ldA h r4 10 (10 + x1)) fun v5 =>
      some v5
    else if x2 = 2 then
      Option.bind (gtR h o 5 0) fun r6 =>
      Option.bind (ldA h r6 10 (17 + x1)) fun v7 =>
      some v7
    else if x2 = 3 then
      Option.bind (gtR h o 5 2) fun r8 =>
      Option.bind (ldA h r8 10 (18 + x1)) fun v9 =>
      some v9
    else
      some (-3)
  else
    some (-2)
noncomputable def F_X4_isHen (h : AH) (o : Nat) (x1 : Int32) : Option (Int32) :=
  Option.bind (ckO h o 4) fun _ =>
  if x1 < 0 then
    some 0
  else
    Option.bind (gtR h o 4 1) fun r1 =>
    Option.bind (gtI h r1 2 1) fun v2 =>
    if v2 ≤ x1 then
      some 0
    else
      some 1
noncomputable def F_X4_hen (h : AH) (o : Nat) (x1 : Int32) (x2 : Int32) : Option (Int32) :=
  Option.bind (ckO h o 4) fun _ =>
  Option.bind (F_X4_isHen h o x1) fun v1 =>
  if ¬ v1 = 0 then
    if x2 = 0 then
      Option.bind (gtR h o 4 3) fun r2 =>
      Option.bind (gtR h r2 3 4) fun r3 =>
      Option.bind (ldA h r3 10 x1) fun v4 =>
      some v4
    else if x2 = 1 then
      Option.bind (gtR h o 4 3) fun r5 =>
      Option.bind (gtR h r5 3 5) fun r6 =>
      Option.bind (ldA h r6 10 x1) fun v7 =>
      some v7
    else if x2 = 2 then
      Option.bind (gtR h o 4 3) fun r8 =>
      Option.bind (gtR h r8 3 6) fun r9 =>
      Option.bind (ldA h r9 10 x1) fun v10 =>
      some v10
    else if x2 = 3 then
      Option.bind (gtR h o 4 3) fun r11 =>
      Option.bind (gtR h r11 3 7) fun r12 =>
      Option.bind (ldA h r12 10 x1) fun v13 =>
      some v13
    else if x2 = 4 then
      Option.bind (gtR h o 4 3) fun r14 =>
      Option.bind (gtR h r14 3 8) fun r15 =>
      Option.bind (ldA h r15 10 x1) fun v16 =>
      some v16
    else
      some (-3)
  else
    some (-2)
noncomputable def F_X5_isHen (h : AH) (o : Nat) (x1 : Int32) : Option (Int32) :=
  Option.bind (ckO h o 5) fun _ =>
  Option.bind (gtR h o 5 0) fun r1 =>
  Option.bind (ldA h r1 10 25) fun v2 =>
  Option.bind (F_X5_in h x1.toInt64 0 (Int32.toInt64 (v2 - 1))) fun v3 =>
  Option.bind (bz v3) fun v4 => some v4
noncomputable def F_X5_hen (h : AH) (o : Nat) (x1 : Int32) (x2 : Int32) : Option (Int32) :=
  Option.bind (ckO h o 5) fun _ =>
  Option.bind (F_X5_isHen h o x1) fun v1 =>
  if ¬ v1 = 0 then
    if x2 = 0 then
      Option.bind (gtR h o 5 0) fun r2 =>
      Option.bind (ldA h r2 10 (26 + x1)) fun v3 =>
      some v3
    else if x2 = 1 then
      Option.bind (gtR h o 5 0) fun r4 =>
      Option.bind (ldA h r4 10 (31 + x1)) fun v5 =>
      some v5
    else if x2 = 2 then
      Option.bind (gtR h o 5 2) fun r6 =>
      Option.bind (ldA h r6 10 (34 + x1)) fun v7 =>
      some v7
    else if x2 = 3 then
      Option.bind (gtR h o 5 2) fun r8 =>
      Option.bind (ldA h r8 10 (39 + x1)) fun v9 =>
      some v9
    else if x2 = 4 then
      Option.bind (gtR h o 5 2) fun r10 =>
      Option.bind (ldA h r10 10 (44 + x1)) fun v11 =>
      some v11
    else
      some (-3)
  else
    some (-2)
noncomputable def F_X4_news (h : AH) (o : Nat) (x1 : Int32) : Option (Int32) :=
  Option.bind (ckO h o 4) fun _ =>
  if x1 < 0 then
    some (-3)
  else
    if x1 < 14 then
      Option.bind (gtR h o 4 1) fun r1 =>
      Option.bind (gtR h r1 2 7) fun r2 =>
      Option.bind (ldA h r2 10 x1) fun v3 =>
      some v3
    else
      some (-3)
noncomputable def F_X5_news (h : AH) (o : Nat) (x1 : Int32) : Option (Int32) :=
  Option.bind (ckO h o 5) fun _ =>
  Option.bind (F_X5_in h x1.toInt64 0 13) fun v1 =>
  if v1 = 0 then
    some (-3)
  else
    Option.bind (gtR h o 5 0) fun r2 =>
    Option.bind (ldA h r2 10 (36 + x1)) fun v3 =>
    some v3
noncomputable def F_X4_isUnder (h : AH) (x0 : Int32) (x1 : Int32) : Option (Int32) :=
  if ¬ x1 = 0 then
    if ¬ x1 = 1 then
      if ¬ x1 = (x0 + 1) then
        some 0
      else
        some 1
    else
      if x0 = 3 then
        some 0
      else
        some 1
  else
    some 1
noncomputable def F_X3_likes (h : AH) (o : Nat) (o1 : Nat) (x2 : Int32) (x3 : Int32) : Option (Int32) :=
  Option.bind (ckO h o 3) fun _ =>
  Option.bind (gtR h o 3 1) fun r1 =>
  Option.bind (ldA h r1 10 x3) fun v2 =>
  Option.bind (gtR h o1 2 4) fun r3 =>
  Option.bind (ldA h r3 10 x3) fun v4 =>
  Option.bind (gtR h o 3 6) fun r5 =>
  Option.bind (ldA h r5 10 x2) fun v6 =>
  Option.bind (α := Int32) (
    if ¬ v6 = x3 then
      some 0
    else
      some 1
  ) fun q7 =>
  Option.bind (gtR h o 3 4) fun r8 =>
  Option.bind (ldA h r8 10 x2) fun v9 =>
  if v9 = 0 then
    if q7 = 0 then
      some ((2 * v2) + v4)
    else
      Option.bind (gtR h o 3 5) fun r10 =>
      Option.bind (ldA h r10 10 x2) fun v11 =>
      some (((2 * v2) + v4) - v11)
  else if v9 = 1 then
    if q7 = 0 then
      some ((2 * v2) + v4)
    else
      Option.bind (gtR h o 3 5) fun r12 =>
      Option.bind (ldA h r12 10 x2) fun v13 =>
      some ((((2 * v2) + v4) - v13) + 9)
  else if v9 = 2 then
    Option.bind (gtR h o1 2 4) fun r14 =>
    Option.bind (ldA h r14 10 x3) fun v15 =>
    Option.bind (gtI h o 3 9) fun v16 =>
    Option.bind (gtR h o 3 5) fun r17 =>
    Option.bind (ldA h r17 10 x2) fun v18 =>
    Option.bind (rmI (v15 + (v16 * v18)) 10) fun v19 =>
    some v19
  else
    Option.bind (gtI h o1 2 0) fun v20 =>
    if v20 ≤ 0 then
      some 0
    else
      Option.bind (gtR h o 3 5) fun r21 =>
      Option.bind (ldA h r21 10 x2) fun v22 =>
      Option.bind (gtI h o1 2 0) fun v23 =>
      Option.bind (rmI v22 v23) fun v24 =>
      if ¬ x3 = v24 then
        some 0
      else
        some 1
noncomputable def F_X4_as (h : AH) (o : Nat) (x1 : Int32) (x2 : Int32) : Option (Int32) :=
  Option.bind (ckO h o 4) fun _ =>
  Option.bind (F_X4_isHen h o x1) fun v1 =>
  if ¬ v1 = 0 then
    if x2 < 0 then
      some (-3)
    else
      if x2 ≤ 4 then
        Option.bind (gtR h o 4 3) fun r2 =>
        Option.bind (gtR h r2 3 4) fun r3 =>
        Option.bind (ldA h r3 10 x1) fun v4 =>
        Option.bind (F_X4_isUnder h v4 x2) fun v5 =>
        if v5 = 0 then
          some (-4)
        else
          Option.bind (gtR h o 4 1) fun r6 =>
          Option.bind (gtI h r6 2 0) fun v7 =>
          if ¬ v7 = 0 then
            Option.bind (gtR h o 4 3) fun r8 =>
            Option.bind (gtR h o 4 1) fun r9 =>
            Option.bind (F_X3_likes h r8 r9 x1 0) fun v10 =>
            some (v10 + 9999)
          else
            some (-4)
      else
        some (-3)
  else
    some (-2)
noncomputable def F_X5_asTold (h : AH) (o : Nat) : Option (AH) :=
  Option.bind (ckO h o 5) fun _ =>
  Option.bind (gtR h o 5 0) fun r1 =>
  Option.bind (gtR h o 5 17) fun r2 =>
  Option.bind (F_X5_copies h r1 26 r2 0 5) fun h3 =>
  Option.bind (gtR h3 o 5 0) fun r4 =>
  Option.bind (gtR h3 o 5 18) fun r5 =>
  Option.bind (F_X5_copies h3 r4 31 r5 0 5) fun h6 =>
  some h6
noncomputable def F_X5_likes (h : AH) (o : Nat) (o1 : Nat) (x2 : Int32) (x3 : Int32) : Option (Int32) :=
  Option.bind (ckO h o 5) fun _ =>
  Option.bind (ldA h o1 10 (10 + x3)) fun v1 =>
  Option.bind (gtR h o 5 0) fun r2 =>
  Option.bind (ldA h r2 10 (17 + x3)) fun v3 =>
  Option.bind (ldA h o1 10 (34 + x2)) fun v4 =>
  Option.bind (α := Int32) (
    if ¬ v4 = x3 then
      some 0
    else
      Option.bind (gtR h o 5 18) fun r6 =>
      Option.bind (ldA h r6 10 x2) fun v7 =>
      some v7
  ) fun q5 =>
  Option.bind (gtR h o 5 17) fun r8 =>
  Option.bind (ldA h r8 10 x2) fun v9 =>
  if v9 = 0 then
    some (((2 * v1) + v3) - q5)
  else if v9 = 1 then
    Option.bind (ldA h o1 10 (34 + x2)) fun v10 =>
    if ¬ v10 = x3 then
      some (((2 * v1) + v3) - q5)
    else
      some ((((2 * v1) + v3) - q5) + 9)
  else if v9 = 2 then
    Option.bind (gtR h o 5 0) fun r11 =>
    Option.bind (ldA h r11 10 (17 + x3)) fun v12 =>
    Option.bind (ldA h o1 10 0) fun v13 =>
    Option.bind (gtR h o 5 18) fun r14 =>
    Option.bind (ldA h r14 10 x2) fun v15 =>
    Option.bind (rmI (v12 + (v13 * v15)) 10) fun v16 =>
    some v16
  else
    Option.bind (gtR h o 5 18) fun r17 =>
    Option.bind (ldA h r17 10 x2) fun v18 =>
    Option.bind (gtR h o 5 0) fun r19 =>
    Option.bind (ldA h r19 10 0) fun v20 =>
    Option.bind (rmI v18 v20) fun v21 =>
    if ¬ v21 = x3 then
      some 0
    else
      some 1
noncomputable def F_X5_as (h : AH) (o : Nat) (x1 : Int32) (x2 : Int32) : Option (Int32 × AH) :=
  Option.bind (ckO h o 5) fun _ =>
  Option.bind (F_X5_isHen h o x1) fun v1 =>
  if ¬ v1 = 0 then
    Option.bind (F_X5_in h x2.toInt64 0 4) fun v2 =>
    if ¬ v2 = 0 then
      Option.bind (gtR h o 5 0) fun r3 =>
      Option.bind (ldA h r3 10 (26 + x1)) fun v4 =>
      Option.bind (α := Int32) (
        if x2 = 0 then
          some 1
        else
          if x2 = (v4 + 1) then
            some 1
          else
            if ¬ x2 = 1 then
              some 0
            else
              if 3 ≤ v4 then
                some 0
              else
                some 1
      ) fun q5 =>
      if q5 = 0 then
        some ((-4), h)
      else
        Option.bind (gtR h o 5 0) fun r6 =>
        Option.bind (ldA h r6 10 0) fun v7 =>
        if ¬ v7 = 0 then
          Option.bind (F_X5_asTold h o) fun h8 =>
          Option.bind (gtR h8 o 5 2) fun r9 =>
          Option.bind (F_X5_likes h8 o r9 x1 0) fun v10 =>
          some (v10 + 9999, h8)
        else
          some ((-4), h)
    else
      some ((-3), h)
  else
    some ((-2), h)
noncomputable def L_X4_dropOldest_9 {β : Type} (o0 : Nat) (o1 : Nat) (k : AH → Int32 → Option (β)) : Nat → AH → Int32 → Option (β)
  | 0, _, _ => none
  | n + 1, h, x2 =>
    if 8 ≤ x2 then
      k h x2
    else
      Option.bind (gtR h o0 4 5) fun r1 =>
      Option.bind (gtR h o0 4 5) fun r2 =>
      Option.bind (ldR h r2 x2) fun r3 =>
      Option.bind (stR h r1 (x2 - 1) r3) fun h4 =>
      L_X4_dropOldest_9 o0 o1 k n h4 (x2 + 1)
noncomputable def F_X4_dropOldest (h : AH) (o : Nat) : Option (AH) :=
  Option.bind (ckO h o 4) fun _ =>
  Option.bind (gtR h o 4 5) fun r1 =>
  Option.bind (ldR h r1 0) fun r2 =>
  L_X4_dropOldest_9 o r2 (fun h5 y6 =>
    Option.bind (gtR h5 o 4 5) fun r7 =>
    Option.bind (stR h5 r7 7 r2) fun h8 =>
    Option.bind (ptI h8 o 4 6 7) fun h9 =>
    some h9
  ) FU h 1
noncomputable def F_X3_copyFrom (h : AH) (o : Nat) (o1 : Nat) : Option (AH) :=
  Option.bind (ckO h o 3) fun _ =>
  Option.bind (gtR h o1 3 0) fun r1 =>
  Option.bind (gtR h o 3 0) fun r2 =>
  Option.bind (cpA h r1 0 r2 0 8) fun h3 =>
  Option.bind (gtR h3 o1 3 1) fun r4 =>
  Option.bind (gtR h3 o 3 1) fun r5 =>
  Option.bind (cpA h3 r4 0 r5 0 8) fun h6 =>
  Option.bind (gtR h6 o1 3 2) fun r7 =>
  Option.bind (gtR h6 o 3 2) fun r8 =>
  Option.bind (cpA h6 r7 0 r8 0 8) fun h9 =>
  Option.bind (gtR h9 o1 3 3) fun r10 =>
  Option.bind (gtR h9 o 3 3) fun r11 =>
  Option.bind (cpA h9 r10 0 r11 0 8) fun h12 =>
  Option.bind (gtR h12 o1 3 4) fun r13 =>
  Option.bind (gtR h12 o 3 4) fun r14 =>
  Option.bind (cpA h12 r13 0 r14 0 5) fun h15 =>
  Option.bind (gtR h15 o1 3 5) fun r16 =>
  Option.bind (gtR h15 o 3 5) fun r17 =>
  Option.bind (cpA h15 r16 0 r17 0 5) fun h18 =>
  Option.bind (gtR h18 o1 3 6) fun r19 =>
  Option.bind (gtR h18 o 3 6) fun r20 =>
  Option.bind (cpA h18 r19 0 r20 0 5) fun h21 =>
  Option.bind (gtR h21 o1 3 7) fun r22 =>
  Option.bind (gtR h21 o 3 7) fun r23 =>
  Option.bind (cpA h21 r22 0 r23 0 5) fun h24 =>
  Option.bind (gtR h24 o1 3 8) fun r25 =>
  Option.bind (gtR h24 o 3 8) fun r26 =>
  Option.bind (cpA h24 r25 0 r26 0 5) fun h27 =>
  Option.bind (gtI h27 o1 3 9) fun v28 =>
  Option.bind (ptI h27 o 3 9 v28) fun h29 =>
  Option.bind (gtI h29 o1 3 10) fun v30 =>
  Option.bind (ptZ h29 o 3 10 v30) fun h31 =>
  Option.bind (gtI h31 o1 3 11) fun v32 =>
  Option.bind (ptI h31 o 3 11 v32) fun h33 =>
  Option.bind (gtI h33 o1 3 12) fun v34 =>
  Option.bind (ptI h33 o 3 12 v34) fun h35 =>
  Option.bind (gtI h35 o1 3 13) fun v36 =>
  Option.bind (ptI h35 o 3 13 v36) fun h37 =>
  some h37
noncomputable def F_X4_remember (h : AH) (o : Nat) : Option (AH) :=
  Option.bind (ckO h o 4) fun _ =>
  Option.bind (gtI h o 4 6) fun v1 =>
  Option.bind (α := AH) (
    if v1 < 8 then
      some h
    else
      Option.bind (F_X4_dropOldest h o) fun h3 =>
      some h3
  ) fun q2 =>
  Option.bind (gtR q2 o 4 5) fun r4 =>
  Option.bind (gtI q2 o 4 6) fun v5 =>
  Option.bind (ldR q2 r4 v5) fun r6 =>
  Option.bind (gtR q2 o 4 3) fun r7 =>
  Option.bind (F_X3_copyFrom q2 r6 r7) fun h8 =>
  Option.bind (gtI h8 o 4 6) fun v9 =>
  Option.bind (ptI h8 o 4 6 (v9 + 1)) fun h10 =>
  some h10
noncomputable def F_X3_laysToday (h : AH) (o : Nat) (x1 : Int32) : Option (Int32) :=
  Option.bind (ckO h o 3) fun _ =>
  Option.bind (gtI h o 3 10) fun v1 =>
  if ¬ v1 = 0 then
    some 0
  else
    Option.bind (gtR h o 3 4) fun r2 =>
    Option.bind (ldA h r2 10 x1) fun v3 =>
    if ¬ v3 = 1 then
      some 1
    else
      Option.bind (gtI h o 3 9) fun v4 =>
      Option.bind (rmI v4 2) fun v5 =>
      if ¬ v5 = 0 then
        some 0
      else
        some 1
noncomputable def L_X3_favourite_8 {β : Type} (h : AH) (o0 : Nat) (o1 : Nat) (x2 : Int32) (k : Int32 → Int32 → Int32 → Option (β)) : Nat → Int32 → Int32 → Int32 → Option (β)
  | 0, _, _, _ => none
  | n + 1, x3, x4, x5 =>
    Option.bind (gtI h o1 2 0) fun v1 =>
    if v1 ≤ x5 then
      k x3 x4 x5
    else
      Option.bind (gtR h o0 3 2) fun r2 =>
      Option.bind (ldA h r2 10 x5) fun v3 =>
      Option.bind (α := Int32 × Int32) (
        if ¬ v3 = (-1) then
          some (x3, x4)
        else
          Option.bind (F_X3_likes h o0 o1 x2 x5) fun v5 =>
          if x3 = (-1) then
            some (x5, v5)
          else
            if v5 ≤ x4 then
              some (x3, x4)
            else
              some (x5, v5)
      ) fun q4 =>
      L_X3_favourite_8 h o0 o1 x2 k n q4.1 q4.2 (x5 + 1)
noncomputable def F_X3_favourite (h : AH) (o : Nat) (o1 : Nat) (x2 : Int32) : Option (Int32) :=
  Option.bind (ckO h o 3) fun _ =>
  L_X3_favourite_8 h o o1 x2 (fun y6 y7 y8 =>
    some y6
  ) FU (-1) 0 0
noncomputable def F_J9_floorMod_7cf53 (h : AH) (x0 : Int32) (x1 : Int32) : Option (Int32) :=
  Option.bind (rmI x0 x1) fun v1 =>
  if 0 ≤ (x0 ^^^ x1) then
    some v1
  else
    if v1 = 0 then
      some v1
    else
      some (v1 + x1)
noncomputable def F_X2_newsOf (h : AH) (o : Nat) (x1 : Int32) : Option (Int32) :=
  Option.bind (ckO h o 2) fun _ =>
  Option.bind (gtR h o 2 7) fun r1 =>
  Option.bind (F_J9_floorMod_7cf53 h x1 14) fun v2 =>
  Option.bind (ldA h r1 10 v2) fun v3 =>
  some v3
noncomputable def F_X3_layEgg (h : AH) (o : Nat) (x1 : Int32) (x2 : Int32) (x3 : Int32) : Option (AH) :=
  Option.bind (ckO h o 3) fun _ =>
  Option.bind (gtR h o 3 0) fun r1 =>
  Option.bind (ldA h r1 10 x2) fun v2 =>
  Option.bind (α := Int32) (
    if ¬ x3 = v2 then
      some 0
    else
      some 1
  ) fun q3 =>
  Option.bind (gtR h o 3 2) fun r4 =>
  Option.bind (stA h r4 10 x2 x1) fun h5 =>
  Option.bind (gtR h5 o 3 6) fun r6 =>
  Option.bind (stA h5 r6 10 x1 x2) fun h7 =>
  Option.bind (gtR h7 o 3 3) fun r8 =>
  Option.bind (α := Int32) (
    if q3 = 0 then
      some (-1)
    else
      some 2
  ) fun q9 =>
  Option.bind (stA h7 r8 10 x2 q9) fun h10 =>
  if q3 = 0 then
    Option.bind (gtR h10 o 3 8) fun r11 =>
    Option.bind (ldA h10 r11 10 x1) fun v12 =>
    Option.bind (stA h10 r11 10 x1 (v12 + 1)) fun h13 =>
    some h13
  else
    Option.bind (gtR h10 o 3 7) fun r14 =>
    Option.bind (ldA h10 r14 10 x1) fun v15 =>
    Option.bind (stA h10 r14 10 x1 (v15 + 1)) fun h16 =>
    some h16
noncomputable def L_X3_passDay_10 {β : Type} (o0 : Nat) (o1 : Nat) (k : AH → Int32 → Option (β)) : Nat → AH → Int32 → Option (β)
  | 0, _, _ => none
  | n + 1, h, x2 =>
    Option.bind (gtI h o1 2 1) fun v1 =>
    if v1 ≤ x2 then
      k h x2
    else
      Option.bind (F_X3_laysToday h o0 x2) fun v2 =>
      Option.bind (α := Int32) (
        if v2 = 0 then
          some (-1)
        else
          Option.bind (F_X3_favourite h o0 o1 x2) fun v4 =>
          some v4
      ) fun q3 =>
      Option.bind (α := AH) (
        if q3 = (-1) then
          some h
        else
          Option.bind (gtI h o0 3 9) fun v6 =>
          Option.bind (F_X2_newsOf h o1 v6) fun v7 =>
          Option.bind (F_X3_layEgg h o0 x2 q3 v7) fun h8 =>
          some h8
      ) fun q5 =>
      L_X3_passDay_10 o0 o1 k n q5 (x2 + 1)
noncomputable def F_X3_passDay (h : AH) (o : Nat) (o1 : Nat) : Option (AH) :=
  Option.bind (ckO h o 3) fun _ =>
  Option.bind (gtR h o 3 2) fun r1 =>
  Option.bind (F_J7_fill_53178 h r1 (-1)) fun h2 =>
  L_X3_passDay_10 o o1 (fun h9 y10 =>
    Option.bind (ptZ h9 o 3 10 0) fun h11 =>
    Option.bind (gtI h11 o 3 9) fun v12 =>
    Option.bind (ptI h11 o 3 9 (v12 + 1)) fun h13 =>
    some h13
  ) FU h2 0
noncomputable def L_X3_eggBits_4 {β : Type} (h : AH) (o0 : Nat) (k : Int32 → Int32 → Option (β)) : Nat → Int32 → Int32 → Option (β)
  | 0, _, _ => none
  | n + 1, x1, x2 =>
    if 8 ≤ x2 then
      k x1 x2
    else
      Option.bind (gtR h o0 3 2) fun r1 =>
      Option.bind (ldA h r1 10 x2) fun v2 =>
      Option.bind (α := Int32) (
        if v2 = (-1) then
          some x1
        else
          some (x1 ||| (1 <<< (x2 &&& 31)))
      ) fun q3 =>
      L_X3_eggBits_4 h o0 k n q3 (x2 + 1)
noncomputable def F_X3_eggBits (h : AH) (o : Nat) : Option (Int32) :=
  Option.bind (ckO h o 3) fun _ =>
  L_X3_eggBits_4 h o (fun y4 y5 =>
    some y4
  ) FU 0 0
noncomputable def F_X4_day (h : AH) (o : Nat) : Option (Int32 × AH) :=
  Option.bind (ckO h o 4) fun _ =>
  Option.bind (gtR h o 4 3) fun r1 =>
  Option.bind (gtI h r1 3 9) fun v2 =>
  if v2 < 999 then
    Option.bind (F_X4_remember h o) fun h3 =>
    Option.bind (gtR h3 o 4 3) fun r4 =>
    Option.bind (gtR h3 o 4 1) fun r5 =>
    Option.bind (F_X3_passDay h3 r4 r5) fun h6 =>
    Option.bind (gtR h6 o 4 3) fun r7 =>
    Option.bind (F_X3_eggBits h6 r7) fun v8 =>
    some (v8, h6)
  else
    some ((-5), h)
noncomputable def L_X5_remember_11 {β : Type} (o0 : Nat) (k : AH → Int32 → Option (β)) : Nat → AH → Int32 → Option (β)
  | 0, _, _ => none
  | n + 1, h, x1 =>
    if 364 ≤ x1 then
      k h x1
    else
      Option.bind (gtR h o0 5 3) fun r1 =>
      Option.bind (gtR h o0 5 3) fun r2 =>
      Option.bind (ldA h r2 10 (x1 + 52)) fun v3 =>
      Option.bind (stA h r1 10 x1 v3) fun h4 =>
      L_X5_remember_11 o0 k n h4 (x1 + 1)
noncomputable def F_X5_remember (h : AH) (o : Nat) : Option (AH) :=
  Option.bind (ckO h o 5) fun _ =>
  Option.bind (gtI h o 5 4) fun v1 =>
  Option.bind (α := AH) (
    if ¬ v1 = 8 then
      some h
    else
      L_X5_remember_11 o (fun h5 y6 =>
        Option.bind (gtI h5 o 5 4) fun v7 =>
        Option.bind (ptI h5 o 5 4 (v7 - 1)) fun h8 =>
        some h8
      ) FU h 0
  ) fun q2 =>
  Option.bind (gtR q2 o 5 2) fun r9 =>
  Option.bind (gtR q2 o 5 3) fun r10 =>
  Option.bind (gtI q2 o 5 4) fun v11 =>
  Option.bind (F_X5_copies q2 r9 0 r10 (52 * v11) 52) fun h12 =>
  Option.bind (gtI h12 o 5 4) fun v13 =>
  Option.bind (ptI h12 o 5 4 (v13 + 1)) fun h14 =>
  some h14
noncomputable def L_X5_bestOf_9 {β : Type} (h : AH) (o0 : Nat) (o1 : Nat) (x2 : Int32) (k : Int32 → Int32 → Int32 → Option (β)) : Nat → Int32 → Int32 → Int32 → Option (β)
  | 0, _, _, _ => none
  | n + 1, x3, x4, x5 =>
    Option.bind (gtR h o0 5 0) fun r1 =>
    Option.bind (ldA h r1 10 0) fun v2 =>
    if v2 ≤ x5 then
      k x3 x4 x5
    else
      Option.bind (ldA h o1 10 (18 + x5)) fun v3 =>
      Option.bind (α := Int32 × Int32) (
        if ¬ v3 = (-1) then
          some (x3, x4)
        else
          Option.bind (F_X5_likes h o0 o1 x2 x5) fun v5 =>
          if v5 ≤ x4 then
            some (x3, x4)
          else
            Option.bind (F_X5_likes h o0 o1 x2 x5) fun v6 =>
            some (x5, v6)
      ) fun q4 =>
      L_X5_bestOf_9 h o0 o1 x2 k n q4.1 q4.2 (x5 + 1)
noncomputable def F_X5_bestOf (h : AH) (o : Nat) (o1 : Nat) (x2 : Int32) : Option (Int32) :=
  Option.bind (ckO h o 5) fun _ =>
  L_X5_bestOf_9 h o o1 x2 (fun y7 y8 y9 =>
    some y7
  ) FU (-1) (-1000000) 0
noncomputable def L_X5_goes_2 {β : Type} (o0 : Nat) (o1 : Nat) (k : AH → Int32 → Option (β)) : Nat → AH → Int32 → Option (β)
  | 0, _, _ => none
  | n + 1, h, x2 =>
    if 8 ≤ x2 then
      k h x2
    else
      Option.bind (stA h o1 10 (18 + x2) (-1)) fun h1 =>
      Option.bind (stA h1 o1 10 (26 + x2) 0) fun h2 =>
      L_X5_goes_2 o0 o1 k n h2 (x2 + 1)
noncomputable def L_X5_goes_46 {β : Type} (o0 : Nat) (o1 : Nat) (x3 : Int32) (k : AH → Int32 → Int32 → Option (β)) : Nat → AH → Int32 → Int32 → Option (β)
  | 0, _, _, _ => none
  | n + 1, h, x2, x4 =>
    if 5 ≤ x4 then
      k h x2 x4
    else
      Option.bind (gtR h o0 5 0) fun r1 =>
      Option.bind (ldA h r1 10 25) fun v2 =>
      Option.bind (α := Int32) (
        if v2 ≤ x4 then
          some 0
        else
          if ¬ x3 = 0 then
            some 0
          else
            Option.bind (gtR h o0 5 17) fun r4 =>
            Option.bind (ldA h r4 10 x4) fun v5 =>
            if ¬ v5 = 1 then
              some 1
            else
              Option.bind (ldA h o1 10 0) fun v6 =>
              Option.bind (rmI v6 2) fun v7 =>
              if ¬ v7 = 0 then
                some 0
              else
                some 1
      ) fun q3 =>
      Option.bind (α := Int32) (
        if q3 = 0 then
          some (-1)
        else
          Option.bind (F_X5_bestOf h o0 o1 x4) fun v9 =>
          some v9
      ) fun q8 =>
      Option.bind (gtR h o0 5 19) fun r10 =>
      Option.bind (stA h r10 10 x4 q8) fun h11 =>
      Option.bind (α := AH × Int32) (
        if q8 = (-1) then
          some (h11, x2)
        else
          Option.bind (gtR h11 o0 5 0) fun r13 =>
          Option.bind (ldA h11 o1 10 0) fun v14 =>
          Option.bind (rmI v14 14) fun v15 =>
          Option.bind (ldA h11 r13 10 (36 + v15)) fun v16 =>
          Option.bind (ldA h11 o1 10 (2 + q8)) fun v17 =>
          Option.bind (α := Int32) (
            if ¬ v16 = v17 then
              some 0
            else
              some 1
          ) fun q18 =>
          Option.bind (stA h11 o1 10 (18 + q8) x4) fun h19 =>
          Option.bind (α := Int32) (
            if q18 = 0 then
              some 0
            else
              some 1
          ) fun q20 =>
          Option.bind (stA h19 o1 10 (26 + q8) q20) fun h21 =>
          Option.bind (stA h21 o1 10 (34 + x4) q8) fun h22 =>
          Option.bind (ldA h22 o1 10 (39 + x4)) fun v23 =>
          Option.bind (α := Int32) (
            if q18 = 0 then
              some 0
            else
              some 1
          ) fun q24 =>
          Option.bind (stA h22 o1 10 (39 + x4) (v23 + q24)) fun h25 =>
          Option.bind (ldA h25 o1 10 (44 + x4)) fun v26 =>
          Option.bind (α := Int32) (
            if q18 = 0 then
              some 1
            else
              some 0
          ) fun q27 =>
          Option.bind (stA h25 o1 10 (44 + x4) (v26 + q27)) fun h28 =>
          some (h28, x2 ||| (1 <<< (q8 &&& 31)))
      ) fun q12 =>
      L_X5_goes_46 o0 o1 x3 k n q12.1 q12.2 (x4 + 1)
noncomputable def F_X5_goes (h : AH) (o : Nat) (o1 : Nat) : Option (Int32 × AH) :=
  Option.bind (ckO h o 5) fun _ =>
  L_X5_goes_2 o o1 (fun h3 y4 =>
    Option.bind (ldA h3 o1 10 1) fun v5 =>
    Option.bind (α := Int32) (
      if ¬ v5 = 1 then
        some 0
      else
        some 1
    ) fun q6 =>
    L_X5_goes_46 o o1 q6 (fun h29 y30 y31 =>
      Option.bind (stA h29 o1 10 1 0) fun h32 =>
      Option.bind (ldA h32 o1 10 0) fun v33 =>
      Option.bind (stA h32 o1 10 0 (v33 + 1)) fun h34 =>
      some (y30, h34)
    ) FU h3 0 0
  ) FU h 0
noncomputable def F_X5_day (h : AH) (o : Nat) : Option (Int32 × AH) :=
  Option.bind (ckO h o 5) fun _ =>
  Option.bind (gtR h o 5 2) fun r1 =>
  Option.bind (ldA h r1 10 0) fun v2 =>
  if ¬ v2 = 999 then
    Option.bind (F_X5_remember h o) fun h3 =>
    Option.bind (F_X5_asTold h3 o) fun h4 =>
    Option.bind (gtR h4 o 5 2) fun r5 =>
    Option.bind (F_X5_goes h4 o r5) fun q6 =>
    some (q6.1, q6.2)
  else
    some ((-5), h)
noncomputable def F_X4_thunder (h : AH) (o : Nat) : Option (Int32 × AH) :=
  Option.bind (ckO h o 4) fun _ =>
  Option.bind (F_X4_remember h o) fun h1 =>
  Option.bind (gtR h1 o 4 3) fun r2 =>
  Option.bind (gtI h1 r2 3 10) fun v3 =>
  Option.bind (α := Int32) (
    if v3 = 0 then
      some 0
    else
      some 1
  ) fun q4 =>
  Option.bind (gtR h1 o 4 3) fun r5 =>
  Option.bind (ptZ h1 r5 3 10 1) fun h6 =>
  some (q4, h6)
noncomputable def F_X5_thunder (h : AH) (o : Nat) : Option (Int32 × AH) :=
  Option.bind (ckO h o 5) fun _ =>
  Option.bind (F_X5_remember h o) fun h1 =>
  Option.bind (gtR h1 o 5 2) fun r2 =>
  Option.bind (ldA h1 r2 10 1) fun v3 =>
  Option.bind (gtR h1 o 5 2) fun r4 =>
  Option.bind (stA h1 r4 10 1 1) fun h5 =>
  some (v3, h5)
noncomputable def F_X4_straw (h : AH) (o : Nat) (x1 : Int32) (x2 : Int32) : Option (Int32 × AH) :=
  Option.bind (ckO h o 4) fun _ =>
  Option.bind (F_X4_isPlace h o x1) fun v1 =>
  if ¬ v1 = 0 then
    if x2 < 0 then
      some ((-3), h)
    else
      if x2 ≤ 9 then
        Option.bind (F_X4_remember h o) fun h2 =>
        Option.bind (gtR h2 o 4 3) fun r3 =>
        Option.bind (gtR h2 r3 3 1) fun r4 =>
        Option.bind (ldA h2 r4 10 x1) fun v5 =>
        Option.bind (gtR h2 o 4 3) fun r6 =>
        Option.bind (gtR h2 r6 3 1) fun r7 =>
        Option.bind (stA h2 r7 10 x1 x2) fun h8 =>
        some (v5, h8)
      else
        some ((-3), h)
  else
    some ((-2), h)
noncomputable def F_X5_straw (h : AH) (o : Nat) (x1 : Int32) (x2 : Int32) : Option (Int32 × AH) :=
  Option.bind (ckO h o 5) fun _ =>
  Option.bind (F_X5_isPlace h o x1) fun v1 =>
  if ¬ v1 = 0 then
    Option.bind (F_X5_in h x2.toInt64 0 9) fun v2 =>
    if ¬ v2 = 0 then
      Option.bind (F_X5_remember h o) fun h3 =>
      Option.bind (gtR h3 o 5 2) fun r4 =>
      Option.bind (ldA h3 r4 10 (10 + x1)) fun v5 =>
      Option.bind (gtR h3 o 5 2) fun r6 =>
      Option.bind (stA h3 r6 10 (10 + x1) x2) fun h7 =>
      some (v5, h7)
    else
      some ((-3), h)
  else
    some ((-2), h)
noncomputable def F_X4_move (h : AH) (o : Nat) (x1 : Int32) (x2 : Int32) : Option (Int32 × AH) :=
  Option.bind (ckO h o 4) fun _ =>
  Option.bind (F_X4_isPlace h o x1) fun v1 =>
  if v1 = 0 then
    some ((-2), h)
  else
    Option.bind (F_X4_isPlace h o x2) fun v2 =>
    if v2 = 0 then
      some ((-2), h)
    else
      if ¬ x1 = x2 then
        Option.bind (F_X4_remember h o) fun h3 =>
        Option.bind (gtR h3 o 4 3) fun r4 =>
        Option.bind (gtR h3 r4 3 0) fun r5 =>
        Option.bind (ldA h3 r5 10 x1) fun v6 =>
        Option.bind (gtR h3 o 4 3) fun r7 =>
        Option.bind (gtR h3 r7 3 0) fun r8 =>
        Option.bind (gtR h3 o 4 3) fun r9 =>
        Option.bind (gtR h3 r9 3 0) fun r10 =>
        Option.bind (ldA h3 r10 10 x2) fun v11 =>
        Option.bind (stA h3 r8 10 x1 v11) fun h12 =>
        Option.bind (gtR h12 o 4 3) fun r13 =>
        Option.bind (gtR h12 r13 3 0) fun r14 =>
        Option.bind (stA h12 r14 10 x2 v6) fun h15 =>
        Option.bind (gtR h15 o 4 3) fun r16 =>
        Option.bind (gtR h15 r16 3 0) fun r17 =>
        Option.bind (ldA h15 r17 10 x1) fun v18 =>
        some (v18, h15)
      else
        some ((-2), h)
noncomputable def F_X5_moves (h : AH) (o0 : Nat) (x1 : Int32) (x2 : Int32) : Option (AH) :=
  Option.bind (ldA h o0 10 (2 + x1)) fun v1 =>
  Option.bind (ldA h o0 10 (2 + x2)) fun v2 =>
  Option.bind (stA h o0 10 (2 + x1) v2) fun h3 =>
  Option.bind (stA h3 o0 10 (2 + x2) v1) fun h4 =>
  some h4
noncomputable def F_X5_move (h : AH) (o : Nat) (x1 : Int32) (x2 : Int32) : Option (Int32 × AH) :=
  Option.bind (ckO h o 5) fun _ =>
  Option.bind (F_X5_isPlace h o x1) fun v1 =>
  if v1 = 0 then
    some ((-2), h)
  else
    Option.bind (F_X5_isPlace h o x2) fun v2 =>
    if v2 = 0 then
      some ((-2), h)
    else
      if ¬ x1 = x2 then
        Option.bind (F_X5_remember h o) fun h3 =>
        Option.bind (gtR h3 o 5 2) fun r4 =>
        Option.bind (F_X5_moves h3 r4 x1 x2) fun h5 =>
        Option.bind (gtR h5 o 5 2) fun r6 =>
        Option.bind (ldA h5 r6 10 (2 + x1)) fun v7 =>
        some (v7, h5)
      else
        some ((-2), h)
noncomputable def F_X4_eat (h : AH) (o : Nat) (x1 : Int32) : Option (Int32 × AH) :=
  Option.bind (ckO h o 4) fun _ =>
  Option.bind (F_X4_isPlace h o x1) fun v1 =>
  if ¬ v1 = 0 then
    Option.bind (gtR h o 4 3) fun r2 =>
    Option.bind (gtR h r2 3 2) fun r3 =>
    Option.bind (ldA h r3 10 x1) fun v4 =>
    if ¬ v4 = (-1) then
      Option.bind (F_X4_remember h o) fun h5 =>
      Option.bind (gtR h5 o 4 3) fun r6 =>
      Option.bind (gtR h5 r6 3 2) fun r7 =>
      Option.bind (stA h5 r7 10 x1 (-1)) fun h8 =>
      Option.bind (gtR h8 o 4 3) fun r9 =>
      Option.bind (gtI h8 r9 3 11) fun v10 =>
      Option.bind (ptI h8 r9 3 11 (v10 + 1)) fun h11 =>
      Option.bind (gtR h11 o 4 3) fun r12 =>
      Option.bind (gtI h11 r12 3 11) fun v13 =>
      some (v13, h11)
    else
      some ((-4), h)
  else
    some ((-2), h)
noncomputable def F_X5_eat (h : AH) (o : Nat) (x1 : Int32) : Option (Int32 × AH) :=
  Option.bind (ckO h o 5) fun _ =>
  Option.bind (F_X5_isPlace h o x1) fun v1 =>
  if ¬ v1 = 0 then
    Option.bind (gtR h o 5 2) fun r2 =>
    Option.bind (ldA h r2 10 (18 + x1)) fun v3 =>
    if ¬ v3 = (-1) then
      Option.bind (F_X5_remember h o) fun h4 =>
      Option.bind (gtR h4 o 5 2) fun r5 =>
      Option.bind (stA h4 r5 10 (18 + x1) (-1)) fun h6 =>
      Option.bind (gtR h6 o 5 2) fun r7 =>
      Option.bind (ldA h6 r7 10 49) fun v8 =>
      Option.bind (stA h6 r7 10 49 (v8 + 1)) fun h9 =>
      Option.bind (gtR h9 o 5 2) fun r10 =>
      Option.bind (ldA h9 r10 10 49) fun v11 =>
      some (v11, h9)
    else
      some ((-4), h)
  else
    some ((-2), h)
noncomputable def F_X4_heed (h : AH) (o : Nat) (x1 : Int32) : Option (Int32 × AH) :=
  Option.bind (ckO h o 4) fun _ =>
  Option.bind (F_X4_isPlace h o x1) fun v1 =>
  if ¬ v1 = 0 then
    Option.bind (gtR h o 4 3) fun r2 =>
    Option.bind (gtR h r2 3 2) fun r3 =>
    Option.bind (ldA h r3 10 x1) fun v4 =>
    if ¬ v4 = (-1) then
      Option.bind (F_X4_remember h o) fun h5 =>
      Option.bind (gtR h5 o 4 3) fun r6 =>
      Option.bind (gtR h5 r6 3 2) fun r7 =>
      Option.bind (stA h5 r7 10 x1 (-1)) fun h8 =>
      Option.bind (gtR h8 o 4 3) fun r9 =>
      Option.bind (gtI h8 r9 3 12) fun v10 =>
      Option.bind (ptI h8 r9 3 12 (v10 + 1)) fun h11 =>
      Option.bind (gtR h11 o 4 3) fun r12 =>
      Option.bind (gtI h11 r12 3 13) fun v13 =>
      Option.bind (gtR h11 o 4 3) fun r14 =>
      Option.bind (gtR h11 r14 3 3) fun r15 =>
      Option.bind (ldA h11 r15 10 x1) fun v16 =>
      Option.bind (ptI h11 r12 3 13 (v13 + v16)) fun h17 =>
      Option.bind (gtR h17 o 4 3) fun r18 =>
      Option.bind (gtI h17 r18 3 13) fun v19 =>
      some (v19 + 9999, h17)
    else
      some ((-4), h)
  else
    some ((-2), h)
noncomputable def F_X5_heed (h : AH) (o : Nat) (x1 : Int32) : Option (Int32 × AH) :=
  Option.bind (ckO h o 5) fun _ =>
  Option.bind (F_X5_isPlace h o x1) fun v1 =>
  if ¬ v1 = 0 then
    Option.bind (gtR h o 5 2) fun r2 =>
    Option.bind (ldA h r2 10 (18 + x1)) fun v3 =>
    if ¬ v3 = (-1) then
      Option.bind (F_X5_remember h o) fun h4 =>
      Option.bind (gtR h4 o 5 2) fun r5 =>
      Option.bind (stA h4 r5 10 (18 + x1) (-1)) fun h6 =>
      Option.bind (gtR h6 o 5 2) fun r7 =>
      Option.bind (ldA h6 r7 10 50) fun v8 =>
      Option.bind (stA h6 r7 10 50 (v8 + 1)) fun h9 =>
      Option.bind (gtR h9 o 5 2) fun r10 =>
      Option.bind (ldA h9 r10 10 51) fun v11 =>
      Option.bind (gtR h9 o 5 2) fun r12 =>
      Option.bind (ldA h9 r12 10 (26 + x1)) fun v13 =>
      Option.bind (α := Int32) (
        if ¬ v13 = 1 then
          some (-1)
        else
          some 2
      ) fun q14 =>
      Option.bind (stA h9 r10 10 51 (v11 + q14)) fun h15 =>
      Option.bind (gtR h15 o 5 2) fun r16 =>
      Option.bind (ldA h15 r16 10 51) fun v17 =>
      some (v17 + 9999, h15)
    else
      some ((-4), h)
  else
    some ((-2), h)
noncomputable def F_X4_undo (h : AH) (o : Nat) : Option (Int32 × AH) :=
  Option.bind (ckO h o 4) fun _ =>
  Option.bind (gtI h o 4 6) fun v1 =>
  if v1 ≤ 0 then
    some ((-4), h)
  else
    Option.bind (gtI h o 4 6) fun v2 =>
    if v2 ≤ 8 then
      Option.bind (gtI h o 4 6) fun v3 =>
      Option.bind (ptI h o 4 6 (v3 - 1)) fun h4 =>
      Option.bind (gtR h4 o 4 3) fun r5 =>
      Option.bind (gtR h4 o 4 5) fun r6 =>
      Option.bind (gtI h4 o 4 6) fun v7 =>
      Option.bind (ldR h4 r6 v7) fun r8 =>
      Option.bind (F_X3_copyFrom h4 r5 r8) fun h9 =>
      Option.bind (gtI h9 o 4 6) fun v10 =>
      some (v10, h9)
    else
      some ((-4), h)
noncomputable def F_X5_undo (h : AH) (o : Nat) : Option (Int32 × AH) :=
  Option.bind (ckO h o 5) fun _ =>
  Option.bind (gtI h o 5 4) fun v1 =>
  if ¬ v1 = 0 then
    Option.bind (gtI h o 5 4) fun v2 =>
    Option.bind (ptI h o 5 4 (v2 - 1)) fun h3 =>
    Option.bind (gtR h3 o 5 3) fun r4 =>
    Option.bind (gtI h3 o 5 4) fun v5 =>
    Option.bind (gtR h3 o 5 2) fun r6 =>
    Option.bind (F_X5_copies h3 r4 (52 * v5) r6 0 52) fun h7 =>
    Option.bind (gtI h7 o 5 4) fun v8 =>
    some (v8, h7)
  else
    some ((-4), h)
noncomputable def F_X4_keep (h : AH) (o : Nat) (x1 : Int32) : Option (Int32 × AH) :=
  Option.bind (ckO h o 4) fun _ =>
  if x1 < 0 then
    some ((-2), h)
  else
    if x1 < 2 then
      Option.bind (gtR h o 4 7) fun r1 =>
      Option.bind (ldR h r1 x1) fun r2 =>
      Option.bind (gtR h o 4 3) fun r3 =>
      Option.bind (F_X3_copyFrom h r2 r3) fun h4 =>
      Option.bind (gtR h4 o 4 8) fun r5 =>
      Option.bind (stA h4 r5 12 x1 (vp_nar .boolean 1)) fun h6 =>
      Option.bind (gtR h6 o 4 3) fun r7 =>
      Option.bind (gtI h6 r7 3 9) fun v8 =>
      some (v8, h6)
    else
      some ((-2), h)
noncomputable def F_X5_isTwo (h : AH) (x0 : Int32) : Option (Int32) :=
  Option.bind (F_X5_in h x0.toInt64 0 1) fun v1 =>
  Option.bind (bz v1) fun v2 => some v2
noncomputable def F_X5_keep (h : AH) (o : Nat) (x1 : Int32) : Option (Int32 × AH) :=
  Option.bind (ckO h o 5) fun _ =>
  Option.bind (F_X5_isTwo h x1) fun v1 =>
  if ¬ v1 = 0 then
    Option.bind (gtR h o 5 2) fun r2 =>
    Option.bind (gtR h o 5 5) fun r3 =>
    Option.bind (F_X5_copies h r2 0 r3 (52 * x1) 52) fun h4 =>
    Option.bind (gtR h4 o 5 6) fun r5 =>
    Option.bind (stA h4 r5 12 x1 (vp_nar .boolean 1)) fun h6 =>
    Option.bind (gtR h6 o 5 2) fun r7 =>
    Option.bind (ldA h6 r7 10 0) fun v8 =>
    some (v8, h6)
  else
    some ((-2), h)
noncomputable def F_X4_back (h : AH) (o : Nat) (x1 : Int32) : Option (Int32 × AH) :=
  Option.bind (ckO h o 4) fun _ =>
  if x1 < 0 then
    some ((-2), h)
  else
    if x1 < 2 then
      Option.bind (gtR h o 4 8) fun r1 =>
      Option.bind (ldA h r1 12 x1) fun v2 =>
      if ¬ v2 = 0 then
        Option.bind (gtR h o 4 3) fun r3 =>
        Option.bind (gtR h o 4 7) fun r4 =>
        Option.bind (ldR h r4 x1) fun r5 =>
        Option.bind (F_X3_copyFrom h r3 r5) fun h6 =>
        Option.bind (ptI h6 o 4 6 0) fun h7 =>
        Option.bind (gtR h7 o 4 3) fun r8 =>
        Option.bind (gtI h7 r8 3 9) fun v9 =>
        some (v9, h7)
      else
        some ((-4), h)
    else
      some ((-2), h)
noncomputable def F_X5_back (h : AH) (o : Nat) (x1 : Int32) : Option (Int32 × AH) :=
  Option.bind (ckO h o 5) fun _ =>
  Option.bind (F_X5_isTwo h x1) fun v1 =>
  if ¬ v1 = 0 then
    Option.bind (gtR h o 5 6) fun r2 =>
    Option.bind (ldA h r2 12 x1) fun v3 =>
    if ¬ v3 = 0 then
      Option.bind (gtR h o 5 5) fun r4 =>
      Option.bind (gtR h o 5 2) fun r5 =>
      Option.bind (F_X5_copies h r4 (52 * x1) r5 0 52) fun h6 =>
      Option.bind (ptI h6 o 5 4 0) fun h7 =>
      Option.bind (gtR h7 o 5 2) fun r8 =>
      Option.bind (ldA h7 r8 10 0) fun v9 =>
      some (v9, h7)
    else
      some ((-4), h)
  else
    some ((-2), h)
noncomputable def L_X4_foretell_13 {β : Type} (o0 : Nat) (x1 : Int32) (k : AH → Int32 → Option (β)) : Nat → AH → Int32 → Option (β)
  | 0, _, _ => none
  | n + 1, h, x2 =>
    if x1 ≤ x2 then
      k h x2
    else
      Option.bind (gtR h o0 4 4) fun r1 =>
      Option.bind (gtR h o0 4 1) fun r2 =>
      Option.bind (F_X3_passDay h r1 r2) fun h3 =>
      L_X4_foretell_13 o0 x1 k n h3 (x2 + 1)
noncomputable def F_X4_foretell (h : AH) (o : Nat) (x1 : Int32) : Option (AH) :=
  Option.bind (ckO h o 4) fun _ =>
  Option.bind (gtR h o 4 4) fun r1 =>
  Option.bind (gtR h o 4 3) fun r2 =>
  Option.bind (F_X3_copyFrom h r1 r2) fun h3 =>
  L_X4_foretell_13 o x1 (fun h4 y5 =>
    some h4
  ) FU h3 0
noncomputable def L_X3_placeOfEgg_2 (h : AH) (o0 : Nat) (x1 : Int32) (k : Int32 → Option (Int32)) : Nat → Int32 → Option (Int32)
  | 0, _ => none
  | n + 1, x2 =>
    if 8 ≤ x2 then
      k x2
    else
      Option.bind (gtR h o0 3 2) fun r1 =>
      Option.bind (ldA h r1 10 x2) fun v2 =>
      if ¬ v2 = x1 then
        L_X3_placeOfEgg_2 h o0 x1 k n (x2 + 1)
      else
        some x2
noncomputable def F_X3_placeOfEgg (h : AH) (o : Nat) (x1 : Int32) : Option (Int32) :=
  Option.bind (ckO h o 3) fun _ =>
  L_X3_placeOfEgg_2 h o x1 (fun y3 =>
    some (-1)
  ) FU 0
noncomputable def F_X4_lays (h : AH) (o : Nat) (x1 : Int32) (x2 : Int32) : Option (Int32 × AH) :=
  Option.bind (ckO h o 4) fun _ =>
  Option.bind (F_X4_isHen h o x1) fun v1 =>
  if ¬ v1 = 0 then
    if x2 < 1 then
      some ((-3), h)
    else
      if x2 ≤ 30 then
        Option.bind (F_X4_foretell h o x2) fun h2 =>
        Option.bind (gtR h2 o 4 4) fun r3 =>
        Option.bind (F_X3_placeOfEgg h2 r3 x1) fun v4 =>
        some (v4, h2)
      else
        some ((-3), h)
  else
    some ((-2), h)
noncomputable def F_X5_layAside (h : AH) (o : Nat) : Option (AH) :=
  Option.bind (ckO h o 5) fun _ =>
  Option.bind (gtR h o 5 2) fun r1 =>
  Option.bind (gtR h o 5 20) fun r2 =>
  Option.bind (F_X5_copies h r1 0 r2 0 52) fun h3 =>
  some h3
noncomputable def L_X5_go_2 {β : Type} (o0 : Nat) (x1 : Int32) (k : AH → Int32 → Option (β)) : Nat → AH → Int32 → Option (β)
  | 0, _, _ => none
  | n + 1, h, x2 =>
    if x1 ≤ x2 then
      k h x2
    else
      Option.bind (gtR h o0 5 20) fun r1 =>
      Option.bind (F_X5_goes h o0 r1) fun q2 =>
      L_X5_go_2 o0 x1 k n q2.2 (x2 + 1)
noncomputable def F_X5_go (h : AH) (o : Nat) (x1 : Int32) : Option (AH) :=
  Option.bind (ckO h o 5) fun _ =>
  L_X5_go_2 o x1 (fun h3 y4 =>
    some h3
  ) FU h 0
noncomputable def F_X5_lays (h : AH) (o : Nat) (x1 : Int32) (x2 : Int32) : Option (Int32 × AH) :=
  Option.bind (ckO h o 5) fun _ =>
  Option.bind (F_X5_isHen h o x1) fun v1 =>
  if ¬ v1 = 0 then
    Option.bind (F_X5_in h x2.toInt64 1 30) fun v2 =>
    if ¬ v2 = 0 then
      Option.bind (F_X5_asTold h o) fun h3 =>
      Option.bind (F_X5_layAside h3 o) fun h4 =>
      Option.bind (F_X5_go h4 o x2) fun h5 =>
      Option.bind (gtR h5 o 5 19) fun r6 =>
      Option.bind (ldA h5 r6 10 x1) fun v7 =>
      some (v7, h5)
    else
      some ((-3), h)
  else
    some ((-2), h)
noncomputable def F_X4_rightsForetold (h : AH) (o : Nat) (x1 : Int32) : Option (Int32) :=
  Option.bind (ckO h o 4) fun _ =>
  Option.bind (gtR h o 4 4) fun r1 =>
  Option.bind (gtR h r1 3 7) fun r2 =>
  Option.bind (ldA h r2 10 x1) fun v3 =>
  Option.bind (gtR h o 4 3) fun r4 =>
  Option.bind (gtR h r4 3 7) fun r5 =>
  Option.bind (ldA h r5 10 x1) fun v6 =>
  some (v3 - v6)
noncomputable def F_X4_rights (h : AH) (o : Nat) (x1 : Int32) (x2 : Int32) : Option (Int32 × AH) :=
  Option.bind (ckO h o 4) fun _ =>
  Option.bind (F_X4_isHen h o x1) fun v1 =>
  if ¬ v1 = 0 then
    if x2 < 0 then
      some ((-3), h)
    else
      if x2 ≤ 30 then
        Option.bind (F_X4_foretell h o x2) fun h2 =>
        Option.bind (F_X4_rightsForetold h2 o x1) fun v3 =>
        some (v3, h2)
      else
        some ((-3), h)
  else
    some ((-2), h)
noncomputable def F_X5_rights (h : AH) (o : Nat) (x1 : Int32) (x2 : Int32) : Option (Int32 × AH) :=
  Option.bind (ckO h o 5) fun _ =>
  Option.bind (F_X5_isHen h o x1) fun v1 =>
  if ¬ v1 = 0 then
    Option.bind (F_X5_in h x2.toInt64 0 30) fun v2 =>
    if ¬ v2 = 0 then
      Option.bind (F_X5_asTold h o) fun h3 =>
      Option.bind (F_X5_layAside h3 o) fun h4 =>
      Option.bind (F_X5_go h4 o x2) fun h5 =>
      Option.bind (gtR h5 o 5 20) fun r6 =>
      Option.bind (ldA h5 r6 10 (39 + x1)) fun v7 =>
      Option.bind (gtR h5 o 5 2) fun r8 =>
      Option.bind (ldA h5 r8 10 (39 + x1)) fun v9 =>
      some (v7 - v9, h5)
    else
      some ((-3), h)
  else
    some ((-2), h)
noncomputable def L_X4_ask_35 {β : Type} (h : AH) (o0 : Nat) (x1 : Int32) (x2 : Int32) (k : Int32 → Int32 → Int32 → Option (β)) : Nat → Int32 → Int32 → Int32 → Option (β)
  | 0, _, _, _ => none
  | n + 1, x3, x4, x5 =>
    Option.bind (gtR h o0 4 1) fun r1 =>
    Option.bind (gtI h r1 2 1) fun v2 =>
    if v2 ≤ x5 then
      k x3 x4 x5
    else
      Option.bind (F_X4_rightsForetold h o0 x5) fun v3 =>
      Option.bind (α := Int32 × Int32) (
        if v3 ≤ x4 then
          some (x3, x4)
        else
          Option.bind (F_X4_rightsForetold h o0 x5) fun v5 =>
          some (x5, v5)
      ) fun q4 =>
      L_X4_ask_35 h o0 x1 x2 k n q4.1 q4.2 (x5 + 1)
noncomputable def F_X4_ask (h : AH) (o : Nat) (x1 : Int32) (x2 : Int32) : Option (Int32 × AH) :=
  Option.bind (ckO h o 4) fun _ =>
  if x1 < 0 then
    some ((-3), h)
  else
    if 30 < x1 then
      some ((-3), h)
    else
      if x2 < 0 then
        some ((-3), h)
      else
        if x2 ≤ 1 then
          Option.bind (F_X4_foretell h o x1) fun h1 =>
          L_X4_ask_35 h1 o x1 x2 (fun y6 y7 y8 =>
            if ¬ x2 = 0 then
              some (y7, h1)
            else
              some (y6, h1)
          ) FU (-1) (-1) 0
        else
          some ((-3), h)
noncomputable def L_X5_ask_43 {β : Type} (h : AH) (o0 : Nat) (x1 : Int32) (x2 : Int32) (k : Int32 → Int32 → Int32 → Option (β)) : Nat → Int32 → Int32 → Int32 → Option (β)
  | 0, _, _, _ => none
  | n + 1, x3, x4, x5 =>
    Option.bind (gtR h o0 5 0) fun r1 =>
    Option.bind (ldA h r1 10 25) fun v2 =>
    if v2 ≤ x5 then
      k x3 x4 x5
    else
      Option.bind (gtR h o0 5 20) fun r3 =>
      Option.bind (ldA h r3 10 (39 + x5)) fun v4 =>
      Option.bind (gtR h o0 5 2) fun r5 =>
      Option.bind (ldA h r5 10 (39 + x5)) fun v6 =>
      Option.bind (α := Int32) (
        if (v4 - v6) ≤ x4 then
          some x3
        else
          some x5
      ) fun q7 =>
      Option.bind (α := Int32) (
        if (v4 - v6) ≤ x4 then
          some x4
        else
          some (v4 - v6)
      ) fun q8 =>
      L_X5_ask_43 h o0 x1 x2 k n q7 q8 (x5 + 1)
noncomputable def F_X5_ask (h : AH) (o : Nat) (x1 : Int32) (x2 : Int32) : Option (Int32 × AH) :=
  Option.bind (ckO h o 5) fun _ =>
  Option.bind (F_X5_in h x1.toInt64 0 30) fun v1 =>
  if v1 = 0 then
    some ((-3), h)
  else
    Option.bind (F_X5_isTwo h x2) fun v2 =>
    if ¬ v2 = 0 then
      Option.bind (F_X5_asTold h o) fun h3 =>
      Option.bind (F_X5_layAside h3 o) fun h4 =>
      Option.bind (F_X5_go h4 o x1) fun h5 =>
      L_X5_ask_43 h5 o x1 x2 (fun y9 y10 y11 =>
        if ¬ x2 = 0 then
          some (y10, h5)
        else
          some (y9, h5)
      ) FU (-1) (-1) 0
    else
      some ((-3), h)
noncomputable def F_X4_hitIndex (h : AH) (x0 : Int32) (x1 : Int32) : Option (Int32) :=
  some ((x0 * 8) + x1)
noncomputable def L_X4_tallyEggs_2 {β : Type} (o0 : Nat) (x1 : Int32) (k : AH → Int32 → Option (β)) : Nat → AH → Int32 → Option (β)
  | 0, _, _ => none
  | n + 1, h, x2 =>
    Option.bind (gtR h o0 4 1) fun r1 =>
    Option.bind (gtI h r1 2 0) fun v2 =>
    if v2 ≤ x2 then
      k h x2
    else
      Option.bind (gtR h o0 4 4) fun r3 =>
      Option.bind (gtR h r3 3 2) fun r4 =>
      Option.bind (ldA h r4 10 x2) fun v5 =>
      Option.bind (α := AH) (
        if v5 = (-1) then
          some h
        else
          Option.bind (gtR h o0 4 10) fun r7 =>
          Option.bind (F_X4_hitIndex h x2 x1) fun v8 =>
          Option.bind (ldA h r7 10 v8) fun v9 =>
          Option.bind (stA h r7 10 v8 (v9 + 1)) fun h10 =>
          some h10
      ) fun q6 =>
      L_X4_tallyEggs_2 o0 x1 k n q6 (x2 + 1)
noncomputable def F_X4_tallyEggs (h : AH) (o : Nat) (x1 : Int32) : Option (AH) :=
  Option.bind (ckO h o 4) fun _ =>
  L_X4_tallyEggs_2 o x1 (fun h11 y12 =>
    some h11
  ) FU h 0
noncomputable def L_X4_tallyHits_21 {β : Type} (o0 : Nat) (x1 : Int32) (k : AH → Int32 → Option (β)) : Nat → AH → Int32 → Option (β)
  | 0, _, _ => none
  | n + 1, h, x2 =>
    if x1 ≤ x2 then
      k h x2
    else
      Option.bind (gtR h o0 4 1) fun r1 =>
      Option.bind (gtR h o0 4 4) fun r2 =>
      Option.bind (gtI h r2 3 9) fun v3 =>
      Option.bind (F_X2_newsOf h r1 v3) fun v4 =>
      Option.bind (gtR h o0 4 4) fun r5 =>
      Option.bind (gtR h o0 4 1) fun r6 =>
      Option.bind (F_X3_passDay h r5 r6) fun h7 =>
      Option.bind (α := AH) (
        if v4 = (-1) then
          some h7
        else
          Option.bind (F_X4_tallyEggs h7 o0 v4) fun h9 =>
          some h9
      ) fun q8 =>
      L_X4_tallyHits_21 o0 x1 k n q8 (x2 + 1)
noncomputable def F_X4_tallyHits (h : AH) (o : Nat) (x1 : Int32) : Option (AH) :=
  Option.bind (ckO h o 4) fun _ =>
  Option.bind (gtR h o 4 10) fun r1 =>
  Option.bind (F_J7_fill_53178 h r1 0) fun h2 =>
  Option.bind (gtR h2 o 4 4) fun r3 =>
  Option.bind (gtR h2 o 4 3) fun r4 =>
  Option.bind (F_X3_copyFrom h2 r3 r4) fun h5 =>
  L_X4_tallyHits_21 o x1 (fun h10 y11 =>
    some h10
  ) FU h5 0
noncomputable def F_X4_gainOfMove (h : AH) (o : Nat) (x1 : Int32) (x2 : Int32) : Option (Int32) :=
  Option.bind (ckO h o 4) fun _ =>
  Option.bind (gtR h o 4 3) fun r1 =>
  Option.bind (gtR h r1 3 0) fun r2 =>
  Option.bind (ldA h r2 10 x1) fun v3 =>
  Option.bind (gtR h o 4 3) fun r4 =>
  Option.bind (gtR h r4 3 0) fun r5 =>
  Option.bind (ldA h r5 10 x2) fun v6 =>
  Option.bind (gtR h o 4 10) fun r7 =>
  Option.bind (F_X4_hitIndex h x1 v6) fun v8 =>
  Option.bind (ldA h r7 10 v8) fun v9 =>
  Option.bind (gtR h o 4 10) fun r10 =>
  Option.bind (F_X4_hitIndex h x2 v3) fun v11 =>
  Option.bind (ldA h r10 10 v11) fun v12 =>
  Option.bind (gtR h o 4 10) fun r13 =>
  Option.bind (F_X4_hitIndex h x1 v3) fun v14 =>
  Option.bind (ldA h r13 10 v14) fun v15 =>
  Option.bind (gtR h o 4 10) fun r16 =>
  Option.bind (F_X4_hitIndex h x2 v6) fun v17 =>
  Option.bind (ldA h r16 10 v17) fun v18 =>
  some (((v9 + v12) - v15) - v18)
noncomputable def L_X4_trough_44 {β : Type} (h : AH) (o0 : Nat) (x1 : Int32) (x4 : Int32) (k : Int32 → Int32 → Int32 → Option (β)) : Nat → Int32 → Int32 → Int32 → Option (β)
  | 0, _, _, _ => none
  | n + 1, x2, x3, x5 =>
    Option.bind (gtR h o0 4 1) fun r1 =>
    Option.bind (gtI h r1 2 0) fun v2 =>
    if v2 ≤ x5 then
      k x2 x3 x5
    else
      Option.bind (F_X4_gainOfMove h o0 x4 x5) fun v3 =>
      Option.bind (α := Int32 × Int32) (
        if v3 ≤ x3 then
          some (x2, x3)
        else
          some ((10 * x4) + x5, v3)
      ) fun q4 =>
      L_X4_trough_44 h o0 x1 x4 k n q4.1 q4.2 (x5 + 1)
noncomputable def L_X4_trough_26 {β : Type} (h : AH) (o0 : Nat) (x1 : Int32) (k : Int32 → Int32 → Int32 → Option (β)) : Nat → Int32 → Int32 → Int32 → Option (β)
  | 0, _, _, _ => none
  | n + 1, x2, x3, x4 =>
    Option.bind (gtR h o0 4 1) fun r1 =>
    Option.bind (gtI h r1 2 0) fun v2 =>
    if v2 ≤ x4 then
      k x2 x3 x4
    else
      L_X4_trough_44 h o0 x1 x4 (fun y5 y6 y7 =>
        L_X4_trough_26 h o0 x1 k n y5 y6 (x4 + 1)
      ) FU x2 x3 (x4 + 1)
noncomputable def F_X4_trough (h : AH) (o : Nat) (x1 : Int32) : Option (Int32 × AH) :=
  Option.bind (ckO h o 4) fun _ =>
  if x1 < 1 then
    some ((-3), h)
  else
    if x1 ≤ 20 then
      Option.bind (F_X4_tallyHits h o x1) fun h1 =>
      L_X4_trough_26 h1 o x1 (fun y8 y9 y10 =>
        some (y8, h1)
      ) FU (-1) 0 0
    else
      some ((-3), h)
noncomputable def L_X5_rightsOfAll_4 {β : Type} (h : AH) (o0 : Nat) (o1 : Nat) (k : Int32 → Int32 → Option (β)) : Nat → Int32 → Int32 → Option (β)
  | 0, _, _ => none
  | n + 1, x2, x3 =>
    if 5 ≤ x3 then
      k x2 x3
    else
      Option.bind (ldA h o1 10 (39 + x3)) fun v1 =>
      L_X5_rightsOfAll_4 h o0 o1 k n (x2 + v1) (x3 + 1)
noncomputable def F_X5_rightsOfAll (h : AH) (o : Nat) (o1 : Nat) : Option (Int32) :=
  Option.bind (ckO h o 5) fun _ =>
  L_X5_rightsOfAll_4 h o o1 (fun y2 y3 =>
    some y2
  ) FU 0 0
noncomputable def L_X5_trough_59 {β : Type} (o0 : Nat) (x1 : Int32) (x4 : Int32) (k : AH → Int32 → Int32 → Int32 → Option (β)) : Nat → AH → Int32 → Int32 → Int32 → Option (β)
  | 0, _, _, _, _ => none
  | n + 1, h, x2, x3, x5 =>
    Option.bind (gtR h o0 5 0) fun r1 =>
    Option.bind (ldA h r1 10 0) fun v2 =>
    if v2 ≤ x5 then
      k h x2 x3 x5
    else
      Option.bind (F_X5_layAside h o0) fun h3 =>
      Option.bind (gtR h3 o0 5 20) fun r4 =>
      Option.bind (F_X5_moves h3 r4 x4 x5) fun h5 =>
      Option.bind (F_X5_go h5 o0 x1) fun h6 =>
      Option.bind (gtR h6 o0 5 20) fun r7 =>
      Option.bind (F_X5_rightsOfAll h6 o0 r7) fun v8 =>
      Option.bind (α := Int32) (
        if v8 ≤ x2 then
          some x3
        else
          some ((10 * x4) + x5)
      ) fun q9 =>
      Option.bind (α := Int32) (
        if v8 ≤ x2 then
          some x2
        else
          some v8
      ) fun q10 =>
      L_X5_trough_59 o0 x1 x4 k n h6 q10 q9 (x5 + 1)
noncomputable def L_X5_trough_42 {β : Type} (o0 : Nat) (x1 : Int32) (k : AH → Int32 → Int32 → Int32 → Option (β)) : Nat → AH → Int32 → Int32 → Int32 → Option (β)
  | 0, _, _, _, _ => none
  | n + 1, h, x2, x3, x4 =>
    Option.bind (gtR h o0 5 0) fun r1 =>
    Option.bind (ldA h r1 10 0) fun v2 =>
    if v2 ≤ x4 then
      k h x2 x3 x4
    else
      L_X5_trough_59 o0 x1 x4 (fun h11 y12 y13 y14 =>
        L_X5_trough_42 o0 x1 k n h11 y12 y13 (x4 + 1)
      ) FU h x2 x3 (x4 + 1)
noncomputable def F_X5_trough (h : AH) (o : Nat) (x1 : Int32) : Option (Int32 × AH) :=
  Option.bind (ckO h o 5) fun _ =>
  Option.bind (F_X5_in h x1.toInt64 1 20) fun v1 =>
  if ¬ v1 = 0 then
    Option.bind (F_X5_asTold h o) fun h2 =>
    Option.bind (F_X5_layAside h2 o) fun h3 =>
    Option.bind (F_X5_go h3 o x1) fun h4 =>
    Option.bind (gtR h4 o 5 20) fun r5 =>
    Option.bind (F_X5_rightsOfAll h4 o r5) fun v6 =>
    L_X5_trough_42 o x1 (fun h15 y16 y17 y18 =>
      some (y17, h15)
    ) FU h4 v6 (-1) 0
  else
    some ((-3), h)
noncomputable def L_X4_warmth_21 (o0 : Nat) (x1 : Int32) (x2 : Int32) (k : AH → Int32 → Option (Int32 × AH)) : Nat → AH → Int32 → Option (Int32 × AH)
  | 0, _, _ => none
  | n + 1, h, x3 =>
    if 9 < x3 then
      k h x3
    else
      Option.bind (gtR h o0 4 4) fun r1 =>
      Option.bind (gtR h o0 4 3) fun r2 =>
      Option.bind (F_X3_copyFrom h r1 r2) fun h3 =>
      Option.bind (gtR h3 o0 4 4) fun r4 =>
      Option.bind (gtR h3 r4 3 1) fun r5 =>
      Option.bind (stA h3 r5 10 x2 x3) fun h6 =>
      Option.bind (gtR h6 o0 4 4) fun r7 =>
      Option.bind (gtR h6 o0 4 1) fun r8 =>
      Option.bind (F_X3_passDay h6 r7 r8) fun h9 =>
      Option.bind (gtR h9 o0 4 4) fun r10 =>
      Option.bind (gtR h9 r10 3 2) fun r11 =>
      Option.bind (ldA h9 r11 10 x2) fun v12 =>
      if ¬ v12 = x1 then
        L_X4_warmth_21 o0 x1 x2 k n h9 (x3 + 1)
      else
        some (x3, h9)
noncomputable def F_X4_warmth (h : AH) (o : Nat) (x1 : Int32) (x2 : Int32) : Option (Int32 × AH) :=
  Option.bind (ckO h o 4) fun _ =>
  Option.bind (F_X4_isHen h o x1) fun v1 =>
  if v1 = 0 then
    some ((-2), h)
  else
    Option.bind (F_X4_isPlace h o x2) fun v2 =>
    if ¬ v2 = 0 then
      L_X4_warmth_21 o x1 x2 (fun h13 y14 =>
        some ((-1), h13)
      ) FU h 0
    else
      some ((-2), h)
noncomputable def L_X5_warmth_25 (o0 : Nat) (x1 : Int32) (x2 : Int32) (k : AH → Int32 → Option (Int32 × AH)) : Nat → AH → Int32 → Option (Int32 × AH)
  | 0, _, _ => none
  | n + 1, h, x3 =>
    if 10 ≤ x3 then
      k h x3
    else
      Option.bind (F_X5_layAside h o0) fun h1 =>
      Option.bind (gtR h1 o0 5 20) fun r2 =>
      Option.bind (stA h1 r2 10 (10 + x2) x3) fun h3 =>
      Option.bind (F_X5_go h3 o0 1) fun h4 =>
      Option.bind (gtR h4 o0 5 19) fun r5 =>
      Option.bind (ldA h4 r5 10 x1) fun v6 =>
      if ¬ v6 = x2 then
        L_X5_warmth_25 o0 x1 x2 k n h4 (x3 + 1)
      else
        some (x3, h4)
noncomputable def F_X5_warmth (h : AH) (o : Nat) (x1 : Int32) (x2 : Int32) : Option (Int32 × AH) :=
  Option.bind (ckO h o 5) fun _ =>
  Option.bind (F_X5_isHen h o x1) fun v1 =>
  if v1 = 0 then
    some ((-2), h)
  else
    Option.bind (F_X5_isPlace h o x2) fun v2 =>
    if ¬ v2 = 0 then
      Option.bind (F_X5_asTold h o) fun h3 =>
      L_X5_warmth_25 o x1 x2 (fun h7 y8 =>
        some ((-1), h7)
      ) FU h3 0
    else
      some ((-2), h)
noncomputable def F_X0_add (h : AH) (o : Nat) (x1 : Int32) (x2 : Int32) (x3 : Int32) : Option (AH) :=
  Option.bind (ckO h o 0) fun _ =>
  Option.bind (gtI h o 0 3) fun v1 =>
  if v1 < 6 then
    Option.bind (gtR h o 0 0) fun r2 =>
    Option.bind (gtI h o 0 3) fun v3 =>
    Option.bind (stA h r2 10 v3 x1) fun h4 =>
    Option.bind (gtR h4 o 0 1) fun r5 =>
    Option.bind (gtI h4 o 0 3) fun v6 =>
    Option.bind (stA h4 r5 10 v6 x2) fun h7 =>
    Option.bind (gtR h7 o 0 2) fun r8 =>
    Option.bind (gtI h7 o 0 3) fun v9 =>
    Option.bind (stA h7 r8 10 v9 x3) fun h10 =>
    Option.bind (gtI h10 o 0 3) fun v11 =>
    Option.bind (ptI h10 o 0 3 (v11 + 1)) fun h12 =>
    some h12
  else
    some h
noncomputable def F_X4_seen (h : AH) (o : Nat) (x1 : Int32) (x2 : Int32) (x3 : Int32) : Option (Int32 × AH) :=
  Option.bind (ckO h o 4) fun _ =>
  Option.bind (F_X4_isHen h o x1) fun v1 =>
  if v1 = 0 then
    some ((-2), h)
  else
    if x3 = (-1) then
      if x2 < 1 then
        some ((-3), h)
      else
        if x2 ≤ 14 then
          Option.bind (gtR h o 4 9) fun r2 =>
          Option.bind (gtI h r2 0 3) fun v3 =>
          if v3 < 6 then
            Option.bind (gtR h o 4 9) fun r4 =>
            Option.bind (F_X0_add h r4 x1 x2 x3) fun h5 =>
            Option.bind (gtR h5 o 4 9) fun r6 =>
            Option.bind (gtI h5 r6 0 3) fun v7 =>
            some (v7, h5)
          else
            some ((-5), h)
        else
          some ((-3), h)
    else
      Option.bind (F_X4_isPlace h o x3) fun v8 =>
      if ¬ v8 = 0 then
        if x2 < 1 then
          some ((-3), h)
        else
          if x2 ≤ 14 then
            Option.bind (gtR h o 4 9) fun r9 =>
            Option.bind (gtI h r9 0 3) fun v10 =>
            if v10 < 6 then
              Option.bind (gtR h o 4 9) fun r11 =>
              Option.bind (F_X0_add h r11 x1 x2 x3) fun h12 =>
              Option.bind (gtR h12 o 4 9) fun r13 =>
              Option.bind (gtI h12 r13 0 3) fun v14 =>
              some (v14, h12)
            else
              some ((-5), h)
          else
            some ((-3), h)
      else
        some ((-2), h)
noncomputable def F_X5_seen (h : AH) (o : Nat) (x1 : Int32) (x2 : Int32) (x3 : Int32) : Option (Int32 × AH) :=
  Option.bind (ckO h o 5) fun _ =>
  Option.bind (F_X5_isHen h o x1) fun v1 =>
  if v1 = 0 then
    some ((-2), h)
  else
    if x3 = (-1) then
      Option.bind (F_X5_in h x2.toInt64 1 14) fun v2 =>
      if ¬ v2 = 0 then
        Option.bind (gtI h o 5 10) fun v3 =>
        if ¬ v3 = 6 then
          Option.bind (gtR h o 5 9) fun r4 =>
          Option.bind (gtI h o 5 10) fun v5 =>
          Option.bind (stA h r4 10 (3 * v5) x1) fun h6 =>
          Option.bind (gtR h6 o 5 9) fun r7 =>
          Option.bind (gtI h6 o 5 10) fun v8 =>
          Option.bind (stA h6 r7 10 ((3 * v8) + 1) x2) fun h9 =>
          Option.bind (gtR h9 o 5 9) fun r10 =>
          Option.bind (gtI h9 o 5 10) fun v11 =>
          Option.bind (stA h9 r10 10 ((3 * v11) + 2) x3) fun h12 =>
          Option.bind (gtI h12 o 5 10) fun v13 =>
          Option.bind (ptI h12 o 5 10 (v13 + 1)) fun h14 =>
          Option.bind (gtI h14 o 5 10) fun v15 =>
          some (v15, h14)
        else
          some ((-5), h)
      else
        some ((-3), h)
    else
      Option.bind (F_X5_isPlace h o x3) fun v16 =>
      if ¬ v16 = 0 then
        Option.bind (F_X5_in h x2.toInt64 1 14) fun v17 =>
        if ¬ v17 = 0 then
          Option.bind (gtI h o 5 10) fun v18 =>
          if ¬ v18 = 6 then
            Option.bind (gtR h o 5 9) fun r19 =>
            Option.bind (gtI h o 5 10) fun v20 =>
            Option.bind (stA h r19 10 (3 * v20) x1) fun h21 =>
            Option.bind (gtR h21 o 5 9) fun r22 =>
            Option.bind (gtI h21 o 5 10) fun v23 =>
            Option.bind (stA h21 r22 10 ((3 * v23) + 1) x2) fun h24 =>
            Option.bind (gtR h24 o 5 9) fun r25 =>
            Option.bind (gtI h24 o 5 10) fun v26 =>
            Option.bind (stA h24 r25 10 ((3 * v26) + 2) x3) fun h27 =>
            Option.bind (gtI h27 o 5 10) fun v28 =>
            Option.bind (ptI h27 o 5 10 (v28 + 1)) fun h29 =>
            Option.bind (gtI h29 o 5 10) fun v30 =>
            some (v30, h29)
          else
            some ((-5), h)
        else
          some ((-3), h)
      else
        some ((-2), h)
noncomputable def F_X4_forget (h : AH) (o : Nat) : Option (Int32 × AH) :=
  Option.bind (ckO h o 4) fun _ =>
  Option.bind (gtR h o 4 9) fun r1 =>
  Option.bind (gtI h r1 0 3) fun v2 =>
  Option.bind (gtR h o 4 9) fun r3 =>
  Option.bind (ptI h r3 0 3 0) fun h4 =>
  some (v2, h4)
noncomputable def F_X5_forget (h : AH) (o : Nat) : Option (Int32 × AH) :=
  Option.bind (ckO h o 5) fun _ =>
  Option.bind (gtI h o 5 10) fun v1 =>
  Option.bind (ptI h o 5 10 0) fun h2 =>
  some (v1, h2)
noncomputable def F_J9_max_7cf53 (h : AH) (x0 : Int32) (x1 : Int32) : Option (Int32) :=
  if x0 < x1 then
    some x1
  else
    some x0
noncomputable def L_X0_lastDayOf_4 {β : Type} (h : AH) (o0 : Nat) (x1 : Int32) (k : Int32 → Int32 → Option (β)) : Nat → Int32 → Int32 → Option (β)
  | 0, _, _ => none
  | n + 1, x2, x3 =>
    Option.bind (gtI h o0 0 3) fun v1 =>
    if v1 ≤ x3 then
      k x2 x3
    else
      Option.bind (gtR h o0 0 0) fun r2 =>
      Option.bind (ldA h r2 10 x3) fun v3 =>
      Option.bind (α := Int32) (
        if ¬ v3 = x1 then
          some x2
        else
          Option.bind (gtR h o0 0 1) fun r5 =>
          Option.bind (ldA h r5 10 x3) fun v6 =>
          Option.bind (F_J9_max_7cf53 h x2 v6) fun v7 =>
          some v7
      ) fun q4 =>
      L_X0_lastDayOf_4 h o0 x1 k n q4 (x3 + 1)
noncomputable def F_X0_lastDayOf (h : AH) (o : Nat) (x1 : Int32) : Option (Int32) :=
  Option.bind (ckO h o 0) fun _ =>
  L_X0_lastDayOf_4 h o x1 (fun y8 y9 =>
    some y8
  ) FU 0 0
noncomputable def L_X0_agree_3 (h : AH) (o0 : Nat) (x1 : Int32) (x2 : Int32) (x3 : Int32) (k : Int32 → Option (Int32)) : Nat → Int32 → Option (Int32)
  | 0, _ => none
  | n + 1, x4 =>
    Option.bind (gtI h o0 0 3) fun v1 =>
    if v1 ≤ x4 then
      k x4
    else
      Option.bind (gtR h o0 0 0) fun r2 =>
      Option.bind (ldA h r2 10 x4) fun v3 =>
      if ¬ v3 = x1 then
        L_X0_agree_3 h o0 x1 x2 x3 k n (x4 + 1)
      else
        Option.bind (gtR h o0 0 1) fun r4 =>
        Option.bind (ldA h r4 10 x4) fun v5 =>
        if ¬ v5 = x2 then
          L_X0_agree_3 h o0 x1 x2 x3 k n (x4 + 1)
        else
          Option.bind (gtR h o0 0 2) fun r6 =>
          Option.bind (ldA h r6 10 x4) fun v7 =>
          if v7 = x3 then
            L_X0_agree_3 h o0 x1 x2 x3 k n (x4 + 1)
          else
            some 0
noncomputable def F_X0_agree (h : AH) (o : Nat) (x1 : Int32) (x2 : Int32) (x3 : Int32) : Option (Int32) :=
  Option.bind (ckO h o 0) fun _ =>
  L_X0_agree_3 h o x1 x2 x3 (fun y8 =>
    some 1
  ) FU 0
noncomputable def L_X4_wouldBeSeen_44 (o0 : Nat) (x1 : Int32) (x2 : Int32) (x3 : Int32) (x4 : Int32) (k : AH → Int32 → Option (Int32 × AH)) : Nat → AH → Int32 → Option (Int32 × AH)
  | 0, _, _ => none
  | n + 1, h, x5 =>
    if x4 < x5 then
      k h x5
    else
      Option.bind (gtR h o0 4 4) fun r1 =>
      Option.bind (gtR h o0 4 1) fun r2 =>
      Option.bind (F_X3_passDay h r1 r2) fun h3 =>
      Option.bind (gtR h3 o0 4 9) fun r4 =>
      Option.bind (gtR h3 o0 4 4) fun r5 =>
      Option.bind (F_X3_placeOfEgg h3 r5 x1) fun v6 =>
      Option.bind (F_X0_agree h3 r4 x1 x5 v6) fun v7 =>
      if ¬ v7 = 0 then
        L_X4_wouldBeSeen_44 o0 x1 x2 x3 x4 k n h3 (x5 + 1)
      else
        some (0, h3)
noncomputable def F_X4_wouldBeSeen (h : AH) (o : Nat) (x1 : Int32) (x2 : Int32) (x3 : Int32) : Option (Int32 × AH) :=
  Option.bind (ckO h o 4) fun _ =>
  Option.bind (gtR h o 4 9) fun r1 =>
  Option.bind (F_X0_lastDayOf h r1 x1) fun v2 =>
  Option.bind (gtR h o 4 4) fun r3 =>
  Option.bind (gtR h o 4 3) fun r4 =>
  Option.bind (F_X3_copyFrom h r3 r4) fun h5 =>
  Option.bind (gtR h5 o 4 4) fun r6 =>
  Option.bind (gtR h5 r6 3 4) fun r7 =>
  Option.bind (stA h5 r7 10 x1 x2) fun h8 =>
  Option.bind (gtR h8 o 4 4) fun r9 =>
  Option.bind (gtR h8 r9 3 5) fun r10 =>
  Option.bind (stA h8 r10 10 x1 x3) fun h11 =>
  L_X4_wouldBeSeen_44 o x1 x2 x3 v2 (fun h12 y13 =>
    some (1, h12)
  ) FU h11 1
noncomputable def L_X4_kinds_15 {β : Type} (o0 : Nat) (x1 : Int32) (k : AH → Int32 → Int32 → Option (β)) : Nat → AH → Int32 → Int32 → Option (β)
  | 0, _, _, _ => none
  | n + 1, h, x2, x3 =>
    if 3 < x3 then
      k h x2 x3
    else
      Option.bind (gtR h o0 4 3) fun r1 =>
      Option.bind (gtR h r1 3 5) fun r2 =>
      Option.bind (ldA h r2 10 x1) fun v3 =>
      Option.bind (F_X4_wouldBeSeen h o0 x1 x3 v3) fun q4 =>
      Option.bind (α := Int32) (
        if q4.1 = 0 then
          some x2
        else
          some (x2 ||| (1 <<< (x3 &&& 31)))
      ) fun q5 =>
      L_X4_kinds_15 o0 x1 k n q4.2 q5 (x3 + 1)
noncomputable def F_X4_kinds (h : AH) (o : Nat) (x1 : Int32) : Option (Int32 × AH) :=
  Option.bind (ckO h o 4) fun _ =>
  Option.bind (F_X4_isHen h o x1) fun v1 =>
  if ¬ v1 = 0 then
    L_X4_kinds_15 o x1 (fun h6 y7 y8 =>
      some (y7, h6)
    ) FU h 0 0
  else
    some ((-2), h)
noncomputable def L_X5_comes_22 {β : Type} (h : AH) (o0 : Nat) (x1 : Int32) (x3 : Int32) (k : Int32 → Int32 → Option (β)) : Nat → Int32 → Int32 → Option (β)
  | 0, _, _ => none
  | n + 1, x2, x4 =>
    Option.bind (gtI h o0 5 10) fun v1 =>
    if v1 ≤ x4 then
      k x2 x4
    else
      Option.bind (gtR h o0 5 9) fun r2 =>
      Option.bind (ldA h r2 10 (3 * x4)) fun v3 =>
      Option.bind (α := Int32) (
        if ¬ v3 = x1 then
          some 0
        else
          Option.bind (gtR h o0 5 9) fun r5 =>
          Option.bind (ldA h r5 10 ((3 * x4) + 1)) fun v6 =>
          if ¬ v6 = x3 then
            some 0
          else
            some 1
      ) fun q4 =>
      Option.bind (α := Int32) (
        if x2 = 0 then
          some 0
        else
          if q4 = 0 then
            some 1
          else
            Option.bind (gtR h o0 5 19) fun r8 =>
            Option.bind (ldA h r8 10 x1) fun v9 =>
            Option.bind (gtR h o0 5 9) fun r10 =>
            Option.bind (ldA h r10 10 ((3 * x4) + 2)) fun v11 =>
            if ¬ v9 = v11 then
              some 0
            else
              some 1
      ) fun q7 =>
      L_X5_comes_22 h o0 x1 x3 k n q7 (x4 + 1)
noncomputable def L_X5_comes_8 {β : Type} (o0 : Nat) (x1 : Int32) (k : AH → Int32 → Int32 → Option (β)) : Nat → AH → Int32 → Int32 → Option (β)
  | 0, _, _, _ => none
  | n + 1, h, x2, x3 =>
    if 15 ≤ x3 then
      k h x2 x3
    else
      Option.bind (F_X5_go h o0 1) fun h1 =>
      L_X5_comes_22 h1 o0 x1 x3 (fun y12 y13 =>
        L_X5_comes_8 o0 x1 k n h1 y12 (x3 + 1)
      ) FU x2 0
noncomputable def F_X5_comes (h : AH) (o : Nat) (x1 : Int32) : Option (Int32 × AH) :=
  Option.bind (ckO h o 5) fun _ =>
  Option.bind (F_X5_layAside h o) fun h1 =>
  L_X5_comes_8 o x1 (fun h14 y15 y16 =>
    Option.bind (bz y15) fun v17 => some (v17, h14)
  ) FU h1 1 1
noncomputable def L_X5_kinds_19 {β : Type} (o0 : Nat) (x1 : Int32) (k : AH → Int32 → Int32 → Option (β)) : Nat → AH → Int32 → Int32 → Option (β)
  | 0, _, _, _ => none
  | n + 1, h, x2, x3 =>
    if 4 ≤ x3 then
      k h x2 x3
    else
      Option.bind (gtR h o0 5 17) fun r1 =>
      Option.bind (stA h r1 10 x1 x3) fun h2 =>
      Option.bind (F_X5_comes h2 o0 x1) fun q3 =>
      Option.bind (α := Int32) (
        if q3.1 = 0 then
          some 0
        else
          some (1 <<< (x3 &&& 31))
      ) fun q4 =>
      L_X5_kinds_19 o0 x1 k n q3.2 (x2 ||| q4) (x3 + 1)
noncomputable def F_X5_kinds (h : AH) (o : Nat) (x1 : Int32) : Option (Int32 × AH) :=
  Option.bind (ckO h o 5) fun _ =>
  Option.bind (F_X5_isHen h o x1) fun v1 =>
  if ¬ v1 = 0 then
    Option.bind (F_X5_asTold h o) fun h2 =>
    L_X5_kinds_19 o x1 (fun h5 y6 y7 =>
      some (y6, h5)
    ) FU h2 0 0
  else
    some ((-2), h)
noncomputable def L_X4_habits_15 {β : Type} (o0 : Nat) (x1 : Int32) (k : AH → Int32 → Int32 → Option (β)) : Nat → AH → Int32 → Int32 → Option (β)
  | 0, _, _, _ => none
  | n + 1, h, x2, x3 =>
    if 9 < x3 then
      k h x2 x3
    else
      Option.bind (gtR h o0 4 3) fun r1 =>
      Option.bind (gtR h r1 3 4) fun r2 =>
      Option.bind (ldA h r2 10 x1) fun v3 =>
      Option.bind (F_X4_wouldBeSeen h o0 x1 v3 x3) fun q4 =>
      Option.bind (α := Int32) (
        if q4.1 = 0 then
          some x2
        else
          some (x2 ||| (1 <<< (x3 &&& 31)))
      ) fun q5 =>
      L_X4_habits_15 o0 x1 k n q4.2 q5 (x3 + 1)
noncomputable def F_X4_habits (h : AH) (o : Nat) (x1 : Int32) : Option (Int32 × AH) :=
  Option.bind (ckO h o 4) fun _ =>
  Option.bind (F_X4_isHen h o x1) fun v1 =>
  if ¬ v1 = 0 then
    L_X4_habits_15 o x1 (fun h6 y7 y8 =>
      some (y7, h6)
    ) FU h 0 0
  else
    some ((-2), h)
noncomputable def L_X5_habits_19 {β : Type} (o0 : Nat) (x1 : Int32) (k : AH → Int32 → Int32 → Option (β)) : Nat → AH → Int32 → Int32 → Option (β)
  | 0, _, _, _ => none
  | n + 1, h, x2, x3 =>
    if 10 ≤ x3 then
      k h x2 x3
    else
      Option.bind (gtR h o0 5 18) fun r1 =>
      Option.bind (stA h r1 10 x1 x3) fun h2 =>
      Option.bind (F_X5_comes h2 o0 x1) fun q3 =>
      Option.bind (α := Int32) (
        if q3.1 = 0 then
          some 0
        else
          some (1 <<< (x3 &&& 31))
      ) fun q4 =>
      L_X5_habits_19 o0 x1 k n q3.2 (x2 ||| q4) (x3 + 1)
noncomputable def F_X5_habits (h : AH) (o : Nat) (x1 : Int32) : Option (Int32 × AH) :=
  Option.bind (ckO h o 5) fun _ =>
  Option.bind (F_X5_isHen h o x1) fun v1 =>
  if ¬ v1 = 0 then
    Option.bind (F_X5_asTold h o) fun h2 =>
    L_X5_habits_19 o x1 (fun h5 y6 y7 =>
      some (y6, h5)
    ) FU h2 0 0
  else
    some ((-2), h)
noncomputable def L_X4_daysToFirstRight_13 (o0 : Nat) (x1 : Int32) (x2 : Int32) (k : AH → Int32 → Option (Int32 × AH)) : Nat → AH → Int32 → Option (Int32 × AH)
  | 0, _, _ => none
  | n + 1, h, x3 =>
    if x2 < x3 then
      k h x3
    else
      Option.bind (gtR h o0 4 4) fun r1 =>
      Option.bind (gtR h o0 4 1) fun r2 =>
      Option.bind (F_X3_passDay h r1 r2) fun h3 =>
      Option.bind (F_X4_rightsForetold h3 o0 x1) fun v4 =>
      if v4 ≤ 0 then
        L_X4_daysToFirstRight_13 o0 x1 x2 k n h3 (x3 + 1)
      else
        some (x3, h3)
noncomputable def F_X4_daysToFirstRight (h : AH) (o : Nat) (x1 : Int32) (x2 : Int32) : Option (Int32 × AH) :=
  Option.bind (ckO h o 4) fun _ =>
  Option.bind (gtR h o 4 4) fun r1 =>
  Option.bind (gtR h o 4 3) fun r2 =>
  Option.bind (F_X3_copyFrom h r1 r2) fun h3 =>
  L_X4_daysToFirstRight_13 o x1 x2 (fun h5 y6 =>
    some ((-1), h5)
  ) FU h3 1
noncomputable def L_X4_power_4 {β : Type} (h : AH) (x0 : Int32) (x1 : Int32) (k : Int32 → Int32 → Option (β)) : Nat → Int32 → Int32 → Option (β)
  | 0, _, _ => none
  | n + 1, x2, x3 =>
    if x1 ≤ x3 then
      k x2 x3
    else
      L_X4_power_4 h x0 x1 k n (x2 * x0) (x3 + 1)
noncomputable def F_X4_power (h : AH) (x0 : Int32) (x1 : Int32) : Option (Int32) :=
  L_X4_power_4 h x0 x1 (fun y1 y2 =>
    some y1
  ) FU 1 0
noncomputable def L_X4_commonDivisor_7 {β : Type} (h : AH) (x0 : Int32) (x1 : Int32) (k : Int32 → Int32 → Int32 → Option (β)) : Nat → Int32 → Int32 → Int32 → Option (β)
  | 0, _, _, _ => none
  | n + 1, x2, x3, x4 =>
    if 64 ≤ x4 then
      k x2 x3 x4
    else
      if x3 ≤ 0 then
        k x2 x3 x4
      else
        Option.bind (rmI x2 x3) fun v1 =>
        L_X4_commonDivisor_7 h x0 x1 k n x3 v1 (x4 + 1)
noncomputable def F_X4_commonDivisor (h : AH) (x0 : Int32) (x1 : Int32) : Option (Int32) :=
  L_X4_commonDivisor_7 h x0 x1 (fun y2 y3 y4 =>
    some y2
  ) FU x1 x0 0
noncomputable def F_X4_foxes (h : AH) (o : Nat) (x1 : Int32) (x2 : Int32) (x3 : Int32) (x4 : Int32) : Option (Int32 × AH) :=
  Option.bind (ckO h o 4) fun _ =>
  Option.bind (F_X4_isHen h o x1) fun v1 =>
  if ¬ v1 = 0 then
    if x2 < 0 then
      some ((-3), h)
    else
      if 6 < x2 then
        some ((-3), h)
      else
        if x3 < 0 then
          some ((-3), h)
        else
          if 10 < x3 then
            some ((-3), h)
          else
            if x4 < 0 then
              some ((-3), h)
            else
              if x4 ≤ 1 then
                Option.bind (F_X4_daysToFirstRight h o x1 x2) fun q2 =>
                Option.bind (α := Int32) (
                  if ¬ q2.1 = (-1) then
                    Option.bind (F_X4_power q2.2 (10 - x3) q2.1) fun v4 =>
                    some v4
                  else
                    some 0
                ) fun q3 =>
                Option.bind (α := Int32) (
                  if ¬ q2.1 = (-1) then
                    Option.bind (F_X4_power q2.2 10 q2.1) fun v6 =>
                    some v6
                  else
                    some 1
                ) fun q5 =>
                Option.bind (F_X4_commonDivisor q2.2 q3 q5) fun v7 =>
                Option.bind (F_J9_max_7cf53 q2.2 1 v7) fun v8 =>
                if ¬ x4 = 0 then
                  Option.bind (dvI q5 v8) fun v9 =>
                  some (v9, q2.2)
                else
                  Option.bind (dvI q3 v8) fun v10 =>
                  some (v10, q2.2)
              else
                some ((-3), h)
  else
    some ((-2), h)
noncomputable def L_X5_foxes_66 {β : Type} (o0 : Nat) (x1 : Int32) (x2 : Int32) (x3 : Int32) (x4 : Int32) (k : AH → Int64 → Int64 → Int32 → Int32 → Option (β)) : Nat → AH → Int64 → Int64 → Int32 → Int32 → Option (β)
  | 0, _, _, _, _, _ => none
  | n + 1, h, x5, x7, x9, x10 =>
    if x2 ≤ x10 then
      k h x5 x7 x9 x10
    else
      if ¬ x9 = 0 then
        k h x5 x7 x9 x10
      else
        Option.bind (F_X5_go h o0 1) fun h1 =>
        Option.bind (gtR h1 o0 5 20) fun r2 =>
        Option.bind (ldA h1 r2 10 (39 + x1)) fun v3 =>
        Option.bind (gtR h1 o0 5 2) fun r4 =>
        Option.bind (ldA h1 r4 10 (39 + x1)) fun v5 =>
        Option.bind (α := Int32) (
          if v3 ≤ v5 then
            some 0
          else
            some 1
        ) fun q6 =>
        L_X5_foxes_66 o0 x1 x2 x3 x4 k n h1 (x5 * (Int32.toInt64 (10 - x3))) (x7 * 10) q6 (x10 + 1)
noncomputable def L_X5_foxes_155 {β : Type} (h : AH) (o0 : Nat) (x1 : Int32) (x2 : Int32) (x3 : Int32) (x4 : Int32) (x5 : Int64) (x7 : Int64) (x9 : Int32) (k : Int64 → Int64 → Option (β)) : Nat → Int64 → Int64 → Option (β)
  | 0, _, _ => none
  | n + 1, x10, x12 =>
    if (lg_cmp x12 0) = 0 then
      k x10 x12
    else
      Option.bind (rmL x10 x12) fun v1 =>
      L_X5_foxes_155 h o0 x1 x2 x3 x4 x5 x7 x9 k n x12 v1
noncomputable def F_X5_foxes (h : AH) (o : Nat) (x1 : Int32) (x2 : Int32) (x3 : Int32) (x4 : Int32) : Option (Int32 × AH) :=
  Option.bind (ckO h o 5) fun _ =>
  Option.bind (F_X5_isHen h o x1) fun v1 =>
  if ¬ v1 = 0 then
    Option.bind (F_X5_in h x2.toInt64 0 6) fun v2 =>
    if v2 = 0 then
      some ((-3), h)
    else
      Option.bind (F_X5_in h x3.toInt64 0 10) fun v3 =>
      if v3 = 0 then
        some ((-3), h)
      else
        Option.bind (F_X5_isTwo h x4) fun v4 =>
        if ¬ v4 = 0 then
          Option.bind (F_X5_asTold h o) fun h5 =>
          Option.bind (F_X5_layAside h5 o) fun h6 =>
          L_X5_foxes_66 o x1 x2 x3 x4 (fun h7 y8 y9 y10 y11 =>
            Option.bind (α := Int64) (
              if y10 = 0 then
                some 0
              else
                some y8
            ) fun q12 =>
            L_X5_foxes_155 h7 o x1 x2 x3 x4 q12 y9 y10 (fun y13 y14 =>
              if ¬ x4 = 0 then
                Option.bind (dvL y9 y13) fun v15 =>
                some (Int64.toInt32 v15, h7)
              else
                Option.bind (dvL q12 y13) fun v16 =>
                some (Int64.toInt32 v16, h7)
            ) FU q12 y9
          ) FU h6 1 1 0 0
        else
          some ((-3), h)
  else
    some ((-2), h)
noncomputable def L_X4_sum_4 {β : Type} (h : AH) (o0 : Nat) (k : Int32 → Int32 → Option (β)) : Nat → Int32 → Int32 → Option (β)
  | 0, _, _ => none
  | n + 1, x1, x2 =>
    Option.bind (lnA h o0) fun v1 =>
    if v1 ≤ x2 then
      k x1 x2
    else
      Option.bind (ldA h o0 10 x2) fun v2 =>
      L_X4_sum_4 h o0 k n (x1 + v2) (x2 + 1)
noncomputable def F_X4_sum (h : AH) (o0 : Nat) : Option (Int32) :=
  L_X4_sum_4 h o0 (fun y3 y4 =>
    some y3
  ) FU 0 0
noncomputable def F_X4_count (h : AH) (o : Nat) (x1 : Int32) : Option (Int32) :=
  Option.bind (ckO h o 4) fun _ =>
  if x1 = 0 then
    Option.bind (gtR h o 4 1) fun r1 =>
    Option.bind (gtI h r1 2 0) fun v2 =>
    some v2
  else if x1 = 1 then
    Option.bind (gtR h o 4 1) fun r3 =>
    Option.bind (gtI h r3 2 1) fun v4 =>
    some v4
  else if x1 = 2 then
    Option.bind (gtR h o 4 3) fun r5 =>
    Option.bind (gtI h r5 3 9) fun v6 =>
    some v6
  else if x1 = 3 then
    Option.bind (gtR h o 4 3) fun r7 =>
    Option.bind (F_X3_eggBits h r7) fun v8 =>
    some v8
  else if x1 = 4 then
    Option.bind (gtR h o 4 3) fun r9 =>
    Option.bind (gtI h r9 3 11) fun v10 =>
    some v10
  else if x1 = 5 then
    Option.bind (gtR h o 4 3) fun r11 =>
    Option.bind (gtI h r11 3 12) fun v12 =>
    some v12
  else if x1 = 6 then
    Option.bind (gtR h o 4 3) fun r13 =>
    Option.bind (gtI h r13 3 13) fun v14 =>
    some (v14 + 9999)
  else if x1 = 7 then
    Option.bind (gtR h o 4 3) fun r15 =>
    Option.bind (gtR h r15 3 7) fun r16 =>
    Option.bind (F_X4_sum h r16) fun v17 =>
    some v17
  else if x1 = 8 then
    Option.bind (gtR h o 4 3) fun r18 =>
    Option.bind (gtR h r18 3 8) fun r19 =>
    Option.bind (F_X4_sum h r19) fun v20 =>
    some v20
  else if x1 = 9 then
    Option.bind (gtR h o 4 3) fun r21 =>
    Option.bind (gtI h r21 3 10) fun v22 =>
    if v22 = 0 then
      some 0
    else
      some 1
  else if x1 = 10 then
    Option.bind (gtR h o 4 9) fun r23 =>
    Option.bind (gtI h r23 0 3) fun v24 =>
    some v24
  else if x1 = 11 then
    Option.bind (gtI h o 4 6) fun v25 =>
    some v25
  else if x1 = 12 then
    Option.bind (gtR h o 4 0) fun r26 =>
    Option.bind (gtI h r26 1 1) fun v27 =>
    some v27
  else
    some (-3)
noncomputable def L_X5_count_10 {β : Type} (h : AH) (o0 : Nat) (x1 : Int32) (x3 : Int32) (x4 : Int32) (k : Int32 → Int32 → Option (β)) : Nat → Int32 → Int32 → Option (β)
  | 0, _, _ => none
  | n + 1, x2, x5 =>
    if 8 ≤ x5 then
      k x2 x5
    else
      Option.bind (gtR h o0 5 2) fun r1 =>
      Option.bind (ldA h r1 10 (18 + x5)) fun v2 =>
      Option.bind (α := Int32) (
        if ¬ v2 = (-1) then
          some (1 <<< (x5 &&& 31))
        else
          some 0
      ) fun q3 =>
      L_X5_count_10 h o0 x1 x3 x4 k n (x2 ||| q3) (x5 + 1)
noncomputable def L_X5_count_51 {β : Type} (h : AH) (o0 : Nat) (x1 : Int32) (x2 : Int32) (k : Int32 → Int32 → Int32 → Option (β)) : Nat → Int32 → Int32 → Int32 → Option (β)
  | 0, _, _, _ => none
  | n + 1, x3, x4, x5 =>
    if 5 ≤ x5 then
      k x3 x4 x5
    else
      Option.bind (gtR h o0 5 2) fun r1 =>
      Option.bind (ldA h r1 10 (39 + x5)) fun v2 =>
      Option.bind (gtR h o0 5 2) fun r3 =>
      Option.bind (ldA h r3 10 (44 + x5)) fun v4 =>
      L_X5_count_51 h o0 x1 x2 k n (x3 + v2) (x4 + v4) (x5 + 1)
noncomputable def F_X5_count (h : AH) (o : Nat) (x1 : Int32) : Option (Int32) :=
  Option.bind (ckO h o 5) fun _ =>
  L_X5_count_10 h o x1 0 0 (fun y4 y5 =>
    L_X5_count_51 h o x1 y4 (fun y6 y7 y8 =>
      if x1 = 0 then
        Option.bind (gtR h o 5 0) fun r9 =>
        Option.bind (ldA h r9 10 0) fun v10 =>
        some v10
      else if x1 = 1 then
        Option.bind (gtR h o 5 0) fun r11 =>
        Option.bind (ldA h r11 10 25) fun v12 =>
        some v12
      else if x1 = 2 then
        Option.bind (gtR h o 5 2) fun r13 =>
        Option.bind (ldA h r13 10 0) fun v14 =>
        some v14
      else if x1 = 3 then
        some y4
      else if x1 = 4 then
        Option.bind (gtR h o 5 2) fun r15 =>
        Option.bind (ldA h r15 10 ((49 + x1) - 4)) fun v16 =>
        some v16
      else if x1 = 5 then
        Option.bind (gtR h o 5 2) fun r17 =>
        Option.bind (ldA h r17 10 ((49 + x1) - 4)) fun v18 =>
        some v18
      else if x1 = 6 then
        Option.bind (gtR h o 5 2) fun r19 =>
        Option.bind (ldA h r19 10 51) fun v20 =>
        some (v20 + 9999)
      else if x1 = 7 then
        some y6
      else if x1 = 8 then
        some y7
      else if x1 = 9 then
        Option.bind (gtR h o 5 2) fun r21 =>
        Option.bind (ldA h r21 10 1) fun v22 =>
        some v22
      else if x1 = 10 then
        Option.bind (gtI h o 5 10) fun v23 =>
        some v23
      else if x1 = 11 then
        Option.bind (gtI h o 5 4) fun v24 =>
        some v24
      else if x1 = 12 then
        Option.bind (gtI h o 5 8) fun v25 =>
        some v25
      else
        some (-3)
    ) FU 0 0 0
  ) FU 0 0
noncomputable def L_L_law_18 (ln : Nat) (xs : Nat → Int32) (o1 : Nat) (o2 : Nat) (k : AH → Int32 → Option (Int32 × AH)) : Nat → AH → Int32 → Option (Int32 × AH)
  | 0, _, _ => none
  | n + 1, h, x3 =>
    if ((nI ln) - 5) < x3 then
      k h x3
    else
      Option.bind (scr ln xs x3) fun v1 =>
      if (v1 &&& 31) = 0 then
        Option.bind (scr ln xs (x3 + 1)) fun v2 =>
        Option.bind (F_X4_write h o1 v2) fun q3 =>
        Option.bind (scr ln xs (x3 + 1)) fun v4 =>
        Option.bind (F_X5_write q3.2 o2 v4) fun q5 =>
        if q3.1 = q5.1 then
          L_L_law_18 ln xs o1 o2 k n q5.2 (x3 + 5)
        else
          some (0, q5.2)
      else if (v1 &&& 31) = 1 then
        Option.bind (F_X4_erase h o1) fun q6 =>
        Option.bind (F_X5_erase q6.2 o2) fun q7 =>
        if q6.1 = q7.1 then
          L_L_law_18 ln xs o1 o2 k n q7.2 (x3 + 5)
        else
          some (0, q7.2)
      else if (v1 &&& 31) = 2 then
        Option.bind (F_X4_fault h o1) fun q8 =>
        Option.bind (F_X5_fault q8.2 o2) fun q9 =>
        if q8.1 = q9.1 then
          L_L_law_18 ln xs o1 o2 k n q9.2 (x3 + 5)
        else
          some (0, q9.2)
      else if (v1 &&& 31) = 3 then
        Option.bind (F_X4_yard h o1) fun q10 =>
        Option.bind (F_X5_yard q10.2 o2) fun q11 =>
        if q10.1 = q11.1 then
          L_L_law_18 ln xs o1 o2 k n q11.2 (x3 + 5)
        else
          some (0, q11.2)
      else if (v1 &&& 31) = 4 then
        Option.bind (scr ln xs (x3 + 1)) fun v12 =>
        Option.bind (scr ln xs (x3 + 2)) fun v13 =>
        Option.bind (F_X4_place h o1 v12 v13) fun v14 =>
        Option.bind (scr ln xs (x3 + 1)) fun v15 =>
        Option.bind (scr ln xs (x3 + 2)) fun v16 =>
        Option.bind (F_X5_place h o2 v15 v16) fun v17 =>
        if v14 = v17 then
          L_L_law_18 ln xs o1 o2 k n h (x3 + 5)
        else
          some (0, h)
      else if (v1 &&& 31) = 5 then
        Option.bind (scr ln xs (x3 + 1)) fun v18 =>
        Option.bind (scr ln xs (x3 + 2)) fun v19 =>
        Option.bind (F_X4_hen h o1 v18 v19) fun v20 =>
        Option.bind (scr ln xs (x3 + 1)) fun v21 =>
        Option.bind (scr ln xs (x3 + 2)) fun v22 =>
        Option.bind (F_X5_hen h o2 v21 v22) fun v23 =>
        if v20 = v23 then
          L_L_law_18 ln xs o1 o2 k n h (x3 + 5)
        else
          some (0, h)
      else if (v1 &&& 31) = 6 then
        Option.bind (scr ln xs (x3 + 1)) fun v24 =>
        Option.bind (F_X4_news h o1 v24) fun v25 =>
        Option.bind (scr ln xs (x3 + 1)) fun v26 =>
        Option.bind (F_X5_news h o2 v26) fun v27 =>
        if v25 = v27 then
          L_L_law_18 ln xs o1 o2 k n h (x3 + 5)
        else
          some (0, h)
      else if (v1 &&& 31) = 7 then
        Option.bind (scr ln xs (x3 + 1)) fun v28 =>
        Option.bind (scr ln xs (x3 + 2)) fun v29 =>
        Option.bind (F_X4_as h o1 v28 v29) fun v30 =>
        Option.bind (scr ln xs (x3 + 1)) fun v31 =>
        Option.bind (scr ln xs (x3 + 2)) fun v32 =>
        Option.bind (F_X5_as h o2 v31 v32) fun q33 =>
        if v30 = q33.1 then
          L_L_law_18 ln xs o1 o2 k n q33.2 (x3 + 5)
        else
          some (0, q33.2)
      else if (v1 &&& 31) = 8 then
        Option.bind (F_X4_day h o1) fun q34 =>
        Option.bind (F_X5_day q34.2 o2) fun q35 =>
        if q34.1 = q35.1 then
          L_L_law_18 ln xs o1 o2 k n q35.2 (x3 + 5)
        else
          some (0, q35.2)
      else if (v1 &&& 31) = 9 then
        Option.bind (F_X4_thunder h o1) fun q36 =>
        Option.bind (F_X5_thunder q36.2 o2) fun q37 =>
        if q36.1 = q37.1 then
          L_L_law_18 ln xs o1 o2 k n q37.2 (x3 + 5)
        else
          some (0, q37.2)
      else if (v1 &&& 31) = 10 then
        Option.bind (scr ln xs (x3 + 1)) fun v38 =>
        Option.bind (scr ln xs (x3 + 2)) fun v39 =>
        Option.bind (F_X4_straw h o1 v38 v39) fun q40 =>
        Option.bind (scr ln xs (x3 + 1)) fun v41 =>
        Option.bind (scr ln xs (x3 + 2)) fun v42 =>
        Option.bind (F_X5_straw q40.2 o2 v41 v42) fun q43 =>
        if q40.1 = q43.1 then
          L_L_law_18 ln xs o1 o2 k n q43.2 (x3 + 5)
        else
          some (0, q43.2)
      else if (v1 &&& 31) = 11 then
        Option.bind (scr ln xs (x3 + 1)) fun v44 =>
        Option.bind (scr ln xs (x3 + 2)) fun v45 =>
        Option.bind (F_X4_move h o1 v44 v45) fun q46 =>
        Option.bind (scr ln xs (x3 + 1)) fun v47 =>
        Option.bind (scr ln xs (x3 + 2)) fun v48 =>
        Option.bind (F_X5_move q46.2 o2 v47 v48) fun q49 =>
        if q46.1 = q49.1 then
          L_L_law_18 ln xs o1 o2 k n q49.2 (x3 + 5)
        else
          some (0, q49.2)
      else if (v1 &&& 31) = 12 then
        Option.bind (scr ln xs (x3 + 1)) fun v50 =>
        Option.bind (F_X4_eat h o1 v50) fun q51 =>
        Option.bind (scr ln xs (x3 + 1)) fun v52 =>
        Option.bind (F_X5_eat q51.2 o2 v52) fun q53 =>
        if q51.1 = q53.1 then
          L_L_law_18 ln xs o1 o2 k n q53.2 (x3 + 5)
        else
          some (0, q53.2)
      else if (v1 &&& 31) = 13 then
        Option.bind (scr ln xs (x3 + 1)) fun v54 =>
        Option.bind (F_X4_heed h o1 v54) fun q55 =>
        Option.bind (scr ln xs (x3 + 1)) fun v56 =>
        Option.bind (F_X5_heed q55.2 o2 v56) fun q57 =>
        if q55.1 = q57.1 then
          L_L_law_18 ln xs o1 o2 k n q57.2 (x3 + 5)
        else
          some (0, q57.2)
      else if (v1 &&& 31) = 14 then
        Option.bind (F_X4_undo h o1) fun q58 =>
        Option.bind (F_X5_undo q58.2 o2) fun q59 =>
        if q58.1 = q59.1 then
          L_L_law_18 ln xs o1 o2 k n q59.2 (x3 + 5)
        else
          some (0, q59.2)
      else if (v1 &&& 31) = 15 then
        Option.bind (scr ln xs (x3 + 1)) fun v60 =>
        Option.bind (F_X4_keep h o1 v60) fun q61 =>
        Option.bind (scr ln xs (x3 + 1)) fun v62 =>
        Option.bind (F_X5_keep q61.2 o2 v62) fun q63 =>
        if q61.1 = q63.1 then
          L_L_law_18 ln xs o1 o2 k n q63.2 (x3 + 5)
        else
          some (0, q63.2)
      else if (v1 &&& 31) = 16 then
        Option.bind (scr ln xs (x3 + 1)) fun v64 =>
        Option.bind (F_X4_back h o1 v64) fun q65 =>
        Option.bind (scr ln xs (x3 + 1)) fun v66 =>
        Option.bind (F_X5_back q65.2 o2 v66) fun q67 =>
        if q65.1 = q67.1 then
          L_L_law_18 ln xs o1 o2 k n q67.2 (x3 + 5)
        else
          some (0, q67.2)
      else if (v1 &&& 31) = 17 then
        Option.bind (scr ln xs (x3 + 1)) fun v68 =>
        Option.bind (scr ln xs (x3 + 2)) fun v69 =>
        Option.bind (F_X4_lays h o1 v68 v69) fun q70 =>
        Option.bind (scr ln xs (x3 + 1)) fun v71 =>
        Option.bind (scr ln xs (x3 + 2)) fun v72 =>
        Option.bind (F_X5_lays q70.2 o2 v71 v72) fun q73 =>
        if q70.1 = q73.1 then
          L_L_law_18 ln xs o1 o2 k n q73.2 (x3 + 5)
        else
          some (0, q73.2)
      else if (v1 &&& 31) = 18 then
        Option.bind (scr ln xs (x3 + 1)) fun v74 =>
        Option.bind (scr ln xs (x3 + 2)) fun v75 =>
        Option.bind (F_X4_rights h o1 v74 v75) fun q76 =>
        Option.bind (scr ln xs (x3 + 1)) fun v77 =>
        Option.bind (scr ln xs (x3 + 2)) fun v78 =>
        Option.bind (F_X5_rights q76.2 o2 v77 v78) fun q79 =>
        if q76.1 = q79.1 then
          L_L_law_18 ln xs o1 o2 k n q79.2 (x3 + 5)
        else
          some (0, q79.2)
      else if (v1 &&& 31) = 19 then
        Option.bind (scr ln xs (x3 + 1)) fun v80 =>
        Option.bind (scr ln xs (x3 + 2)) fun v81 =>
        Option.bind (F_X4_ask h o1 v80 v81) fun q82 =>
        Option.bind (scr ln xs (x3 + 1)) fun v83 =>
        Option.bind (scr ln xs (x3 + 2)) fun v84 =>
        Option.bind (F_X5_ask q82.2 o2 v83 v84) fun q85 =>
        if q82.1 = q85.1 then
          L_L_law_18 ln xs o1 o2 k n q85.2 (x3 + 5)
        else
          some (0, q85.2)
      else if (v1 &&& 31) = 20 then
        Option.bind (scr ln xs (x3 + 1)) fun v86 =>
        Option.bind (F_X4_trough h o1 v86) fun q87 =>
        Option.bind (scr ln xs (x3 + 1)) fun v88 =>
        Option.bind (F_X5_trough q87.2 o2 v88) fun q89 =>
        if q87.1 = q89.1 then
          L_L_law_18 ln xs o1 o2 k n q89.2 (x3 + 5)
        else
          some (0, q89.2)
      else if (v1 &&& 31) = 21 then
        Option.bind (scr ln xs (x3 + 1)) fun v90 =>
        Option.bind (scr ln xs (x3 + 2)) fun v91 =>
        Option.bind (F_X4_warmth h o1 v90 v91) fun q92 =>
        Option.bind (scr ln xs (x3 + 1)) fun v93 =>
        Option.bind (scr ln xs (x3 + 2)) fun v94 =>
        Option.bind (F_X5_warmth q92.2 o2 v93 v94) fun q95 =>
        if q92.1 = q95.1 then
          L_L_law_18 ln xs o1 o2 k n q95.2 (x3 + 5)
        else
          some (0, q95.2)
      else if (v1 &&& 31) = 22 then
        Option.bind (scr ln xs (x3 + 1)) fun v96 =>
        Option.bind (scr ln xs (x3 + 2)) fun v97 =>
        Option.bind (scr ln xs (x3 + 3)) fun v98 =>
        Option.bind (F_X4_seen h o1 v96 v97 v98) fun q99 =>
        Option.bind (scr ln xs (x3 + 1)) fun v100 =>
        Option.bind (scr ln xs (x3 + 2)) fun v101 =>
        Option.bind (scr ln xs (x3 + 3)) fun v102 =>
        Option.bind (F_X5_seen q99.2 o2 v100 v101 v102) fun q103 =>
        if q99.1 = q103.1 then
          L_L_law_18 ln xs o1 o2 k n q103.2 (x3 + 5)
        else
          some (0, q103.2)
      else if (v1 &&& 31) = 23 then
        Option.bind (F_X4_forget h o1) fun q104 =>
        Option.bind (F_X5_forget q104.2 o2) fun q105 =>
        if q104.1 = q105.1 then
          L_L_law_18 ln xs o1 o2 k n q105.2 (x3 + 5)
        else
          some (0, q105.2)
      else if (v1 &&& 31) = 24 then
        Option.bind (scr ln xs (x3 + 1)) fun v106 =>
        Option.bind (F_X4_kinds h o1 v106) fun q107 =>
        Option.bind (scr ln xs (x3 + 1)) fun v108 =>
        Option.bind (F_X5_kinds q107.2 o2 v108) fun q109 =>
        if q107.1 = q109.1 then
          L_L_law_18 ln xs o1 o2 k n q109.2 (x3 + 5)
        else
          some (0, q109.2)
      else if (v1 &&& 31) = 25 then
        Option.bind (scr ln xs (x3 + 1)) fun v110 =>
        Option.bind (F_X4_habits h o1 v110) fun q111 =>
        Option.bind (scr ln xs (x3 + 1)) fun v112 =>
        Option.bind (F_X5_habits q111.2 o2 v112) fun q113 =>
        if q111.1 = q113.1 then
          L_L_law_18 ln xs o1 o2 k n q113.2 (x3 + 5)
        else
          some (0, q113.2)
      else if (v1 &&& 31) = 26 then
        Option.bind (scr ln xs (x3 + 1)) fun v114 =>
        Option.bind (scr ln xs (x3 + 2)) fun v115 =>
        Option.bind (scr ln xs (x3 + 3)) fun v116 =>
        Option.bind (scr ln xs (x3 + 4)) fun v117 =>
        Option.bind (F_X4_foxes h o1 v114 v115 v116 v117) fun q118 =>
        Option.bind (scr ln xs (x3 + 1)) fun v119 =>
        Option.bind (scr ln xs (x3 + 2)) fun v120 =>
        Option.bind (scr ln xs (x3 + 3)) fun v121 =>
        Option.bind (scr ln xs (x3 + 4)) fun v122 =>
        Option.bind (F_X5_foxes q118.2 o2 v119 v120 v121 v122) fun q123 =>
        if q118.1 = q123.1 then
          L_L_law_18 ln xs o1 o2 k n q123.2 (x3 + 5)
        else
          some (0, q123.2)
      else if (v1 &&& 31) = 27 then
        Option.bind (scr ln xs (x3 + 1)) fun v124 =>
        Option.bind (F_X4_count h o1 v124) fun v125 =>
        Option.bind (scr ln xs (x3 + 1)) fun v126 =>
        Option.bind (F_X5_count h o2 v126) fun v127 =>
        if v125 = v127 then
          L_L_law_18 ln xs o1 o2 k n h (x3 + 5)
        else
          some (0, h)
      else
        L_L_law_18 ln xs o1 o2 k n h (x3 + 5)
noncomputable def F_L_law (ln : Nat) (xs : Nat → Int32) (h : AH) : Option (Int32 × AH) :=
  Option.bind (some (sN h 4 11)) fun h1 =>
  Option.bind (F_X4_init h1 (hN h)) fun h2 =>
  Option.bind (some (sN h2 5 21)) fun h3 =>
  Option.bind (F_X5_init h3 (hN h2)) fun h4 =>
  L_L_law_18 ln xs (hN h) (hN h2) (fun h128 y129 =>
    some (1, h128)
  ) FU h4 0
