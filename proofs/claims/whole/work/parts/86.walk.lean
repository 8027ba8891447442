theorem TL_X0_lastDayOf_4 {G : WG} {post : PO} {β : Type} {P : β → Prop} {h : AH} {o0 : Nat} {x1 : Int32} {k : Int32 → Int32 → Option (β)} (hk : ∀ (x2 : Int32) (x3 : Int32), OkA (k x2 x3) P → Rn G M_X0_lastDayOf (0, 0) 39 [(0, .ref (ad G o0)), (1, .int x1), (2, .int x2), (3, .int x3)] [] h post) : ∀ (n : Nat) (x2 : Int32) (x3 : Int32), OkA (L_X0_lastDayOf_4 h o0 x1 k n x2 x3) P → Rn G M_X0_lastDayOf (0, 0) 4 [(0, .ref (ad G o0)), (1, .int x1), (2, .int x2), (3, .int x3)] [] h post := by
  intro n
  induction n with
  | zero => intro _ _ hf; exact absurd hf ok_none
  | succ n ih =>
    intro x2 x3 hf
    refine rn_iload_n 5 dX0_lastDayOf_4 rfl rfl ?_
    refine rn_aload_n 6 dX0_lastDayOf_5 rfl rfl ?_
    refine ro_gtI 9 dX0_lastDayOf_6 rfl f_X0_21 ft_0_3 hf (fun v1 hf => ?_)
    refine ro_icmp_ge 39 12 dX0_lastDayOf_9 rfl rfl hf (fun hf => ?_) (fun hf => ?_)
    · exact hk _ _ hf
    · refine rn_aload_n 13 dX0_lastDayOf_12 rfl rfl ?_
      refine ro_gtR 16 dX0_lastDayOf_13 rfl f_X0_9 ft_0_0 hf (fun r2 hf => ?_)
      refine rn_iload_n 17 dX0_lastDayOf_16 rfl rfl ?_
      refine ro_iaload 18 dX0_lastDayOf_17 rfl hf (fun v3 hf => ?_)
      refine rn_iload_n 19 dX0_lastDayOf_18 rfl rfl ?_
      refine ro_reg (X := (fun q4 : Int32 => Rn G M_X0_lastDayOf (0, 0) 33 [(0, .ref (ad G o0)), (1, .int x1), (2, .int q4), (3, .int x3)] [] h post)) hf (fun q4 hf => ?_) (fun hf => ?_)
      · refine rn_iinc (lv' := [(0, .ref (ad G o0)), (1, .int x1), (2, .int q4), (3, .int (x3 + 1))]) 36 dX0_lastDayOf_33 rfl (Nat.le_of_ble_eq_true rfl) rfl (inc_1 _) rfl ?_
        refine rn_goto 4 dX0_lastDayOf_36 rfl ?_
        exact ih _ _ hf
      · refine ro_icmp_ne 33 22 dX0_lastDayOf_19 rfl rfl hf (fun hf => ?_) (fun hf => ?_)
        · exact (ok_some hf :)
        · refine rn_iload_n 23 dX0_lastDayOf_22 rfl rfl ?_
          refine rn_aload_n 24 dX0_lastDayOf_23 rfl rfl ?_
          refine ro_gtR 27 dX0_lastDayOf_24 rfl f_X0_15 ft_0_1 hf (fun r5 hf => ?_)
          refine rn_iload_n 28 dX0_lastDayOf_27 rfl rfl ?_
          refine ro_iaload 29 dX0_lastDayOf_28 rfl hf (fun v6 hf => ?_)
          refine ro_cSp (M' := M_J9_max_7cf53) (As := [.int x2, .int v6]) (st := []) 32 (0, 0) dX0_lastDayOf_29 rfl l_X0_25 v_J9_max_7cf53 ⟨Nat.le_of_ble_eq_true rfl, Nat.le_of_ble_eq_true rfl⟩ rfl rfl (Nat.le_of_ble_eq_true rfl) (Nat.le_of_ble_eq_true rfl) ⟨rfl, Nat.le_of_ble_eq_true rfl, Nat.le_of_ble_eq_true rfl⟩ hf (fun X z => T_J9_max_7cf53 z) (fun v7 hf => ?_)
          refine rn_istore_n (lv' := [(0, .ref (ad G o0)), (1, .int x1), (2, .int v7), (3, .int x3)]) 33 dX0_lastDayOf_32 rfl (Nat.le_of_ble_eq_true rfl) rfl ?_
          exact (ok_some hf :)
theorem T_X0_lastDayOf {G : WG} {post : PO} {h : AH} {o : Nat} {x1 : Int32} (hf : OkA (F_X0_lastDayOf h o x1) (fun q => post (some q) h)) : Rn G M_X0_lastDayOf (0, 0) 0 [(0, .ref (ad G o)), (1, .int x1)] [] h post := by
  obtain ⟨_, hf⟩ := ok_ck2 hf
  refine rn_iconst 1 dX0_lastDayOf_0 rfl ic_0 ?_
  refine rn_istore_n (lv' := [(0, .ref (ad G o)), (1, .int x1), (2, .int 0)]) 2 dX0_lastDayOf_1 rfl (Nat.le_of_ble_eq_true rfl) rfl ?_
  refine rn_iconst 3 dX0_lastDayOf_2 rfl ic_0 ?_
  refine rn_istore_n (lv' := [(0, .ref (ad G o)), (1, .int x1), (2, .int 0), (3, .int 0)]) 4 dX0_lastDayOf_3 rfl (Nat.le_of_ble_eq_true rfl) rfl ?_
  refine TL_X0_lastDayOf_4 ?_ FU _ _ hf
  intro y8 y9 hf
  refine rn_iload_n 40 dX0_lastDayOf_39 rfl rfl ?_
  exact rn_iret .int dX0_lastDayOf_40 rfl rfl (Or.inl rfl) (ok_some hf :)
theorem TL_X0_agree_3 {G : WG} {post : PO} {h : AH} {o0 : Nat} {x1 : Int32} {x2 : Int32} {x3 : Int32} {k : Int32 → Option (Int32)} (hk : ∀ (x4 : Int32), OkA (k x4) (fun q => post (some q) h) → Rn G M_X0_agree (0, 0) 53 [(0, .ref (ad G o0)), (1, .int x1), (2, .int x2), (3, .int x3), (4, .int x4)] [] h post) : ∀ (n : Nat) (x4 : Int32), OkA (L_X0_agree_3 h o0 x1 x2 x3 k n x4) (fun q => post (some q) h) → Rn G M_X0_agree (0, 0) 3 [(0, .ref (ad G o0)), (1, .int x1), (2, .int x2), (3, .int x3), (4, .int x4)] [] h post := by
  intro n
  induction n with
  | zero => intro _ hf; exact absurd hf ok_none
  | succ n ih =>
    intro x4 hf
    refine rn_iload 5 dX0_agree_3 rfl rfl ?_
    refine rn_aload_n 6 dX0_agree_5 rfl rfl ?_
    refine ro_gtI 9 dX0_agree_6 rfl f_X0_21 ft_0_3 hf (fun v1 hf => ?_)
    refine ro_icmp_ge 53 12 dX0_agree_9 rfl rfl hf (fun hf => ?_) (fun hf => ?_)
    · exact hk _ hf
    · refine rn_aload_n 13 dX0_agree_12 rfl rfl ?_
      refine ro_gtR 16 dX0_agree_13 rfl f_X0_9 ft_0_0 hf (fun r2 hf => ?_)
      refine rn_iload 18 dX0_agree_16 rfl rfl ?_
      refine ro_iaload 19 dX0_agree_18 rfl hf (fun v3 hf => ?_)
      refine rn_iload_n 20 dX0_agree_19 rfl rfl ?_
      refine ro_icmp_ne 47 23 dX0_agree_20 rfl rfl hf (fun hf => ?_) (fun hf => ?_)
      · refine rn_iinc (lv' := [(0, .ref (ad G o0)), (1, .int x1), (2, .int x2), (3, .int x3), (4, .int (x4 + 1))]) 50 dX0_agree_47 rfl (Nat.le_of_ble_eq_true rfl) rfl (inc_1 _) rfl ?_
        refine rn_goto 3 dX0_agree_50 rfl ?_
        exact ih _ hf
      · refine rn_aload_n 24 dX0_agree_23 rfl rfl ?_
        refine ro_gtR 27 dX0_agree_24 rfl f_X0_15 ft_0_1 hf (fun r4 hf => ?_)
        refine rn_iload 29 dX0_agree_27 rfl rfl ?_
        refine ro_iaload 30 dX0_agree_29 rfl hf (fun v5 hf => ?_)
        refine rn_iload_n 31 dX0_agree_30 rfl rfl ?_
        refine ro_icmp_ne 47 34 dX0_agree_31 rfl rfl hf (fun hf => ?_) (fun hf => ?_)
        · refine rn_iinc (lv' := [(0, .ref (ad G o0)), (1, .int x1), (2, .int x2), (3, .int x3), (4, .int (x4 + 1))]) 50 dX0_agree_47 rfl (Nat.le_of_ble_eq_true rfl) rfl (inc_1 _) rfl ?_
          refine rn_goto 3 dX0_agree_50 rfl ?_
          exact ih _ hf
        · refine rn_aload_n 35 dX0_agree_34 rfl rfl ?_
          refine ro_gtR 38 dX0_agree_35 rfl f_X0_18 ft_0_2 hf (fun r6 hf => ?_)
          refine rn_iload 40 dX0_agree_38 rfl rfl ?_
          refine ro_iaload 41 dX0_agree_40 rfl hf (fun v7 hf => ?_)
          refine rn_iload_n 42 dX0_agree_41 rfl rfl ?_
          refine ro_icmp_eq 47 45 dX0_agree_42 rfl rfl hf (fun hf => ?_) (fun hf => ?_)
          · refine rn_iinc (lv' := [(0, .ref (ad G o0)), (1, .int x1), (2, .int x2), (3, .int x3), (4, .int (x4 + 1))]) 50 dX0_agree_47 rfl (Nat.le_of_ble_eq_true rfl) rfl (inc_1 _) rfl ?_
            refine rn_goto 3 dX0_agree_50 rfl ?_
            exact ih _ hf
          · refine rn_iconst 46 dX0_agree_45 rfl ic_0 ?_
            exact rn_iret .boolean dX0_agree_46 rfl rfl (Or.inl rfl) (ok_some hf :)
theorem T_X0_agree {G : WG} {post : PO} {h : AH} {o : Nat} {x1 : Int32} {x2 : Int32} {x3 : Int32} (hf : OkA (F_X0_agree h o x1 x2 x3) (fun q => post (some q) h)) : Rn G M_X0_agree (0, 0) 0 [(0, .ref (ad G o)), (1, .int x1), (2, .int x2), (3, .int x3)] [] h post := by
  obtain ⟨_, hf⟩ := ok_ck2 hf
  refine rn_iconst 1 dX0_agree_0 rfl ic_0 ?_
  refine rn_istore (lv' := [(0, .ref (ad G o)), (1, .int x1), (2, .int x2), (3, .int x3), (4, .int 0)]) 3 dX0_agree_1 rfl (Nat.le_of_ble_eq_true rfl) rfl ?_
  refine TL_X0_agree_3 ?_ FU _ hf
  intro y8 hf
  refine rn_iconst 54 dX0_agree_53 rfl ic_1 ?_
  exact rn_iret .boolean dX0_agree_54 rfl rfl (Or.inl rfl) (ok_some hf :)
theorem TL_X4_wouldBeSeen_44 {G : WG} {post : PO} {o0 : Nat} {x1 : Int32} {x2 : Int32} {x3 : Int32} {x4 : Int32} {k : AH → Int32 → Option (Int32 × AH)} (hk : ∀ (h : AH) (x5 : Int32), OkA (k h x5) (fun q => post (some q.1) q.2) → Rn G M_X4_wouldBeSeen (0, 0) 91 [(0, .ref (ad G o0)), (1, .int x1), (2, .int x2), (3, .int x3), (4, .int x4), (5, .int x5)] [] h post) : ∀ (n : Nat) (h : AH) (x5 : Int32), OkA (L_X4_wouldBeSeen_44 o0 x1 x2 x3 x4 k n h x5) (fun q => post (some q.1) q.2) → Rn G M_X4_wouldBeSeen (0, 0) 44 [(0, .ref (ad G o0)), (1, .int x1), (2, .int x2), (3, .int x3), (4, .int x4), (5, .int x5)] [] h post := by
  intro n
  induction n with
  | zero => intro _ _ hf; exact absurd hf ok_none
  | succ n ih =>
    intro h x5 hf
    refine rn_iload 46 dX4_wouldBeSeen_44 rfl rfl ?_
    refine rn_iload 48 dX4_wouldBeSeen_46 rfl rfl ?_
    refine ro_icmp_gt 91 51 dX4_wouldBeSeen_48 rfl rfl hf (fun hf => ?_) (fun hf => ?_)
    · exact hk _ _ hf
    · refine rn_aload_n 52 dX4_wouldBeSeen_51 rfl rfl ?_
      refine ro_gtR 55 dX4_wouldBeSeen_52 rfl f_X4_33 ft_4_4 hf (fun r1 hf => ?_)
      refine rn_aload_n 56 dX4_wouldBeSeen_55 rfl rfl ?_
      refine ro_gtR 59 dX4_wouldBeSeen_56 rfl f_X4_19 ft_4_1 hf (fun r2 hf => ?_)
      refine ro_cVv (M' := M_X3_passDay) (As := [.ref (ad G r2)]) (o := r1) (st := []) 62 (0, 0) dX4_wouldBeSeen_59 rfl l_X4_140 v_X3_passDay ⟨Nat.le_of_ble_eq_true rfl, Nat.le_of_ble_eq_true rfl⟩ rfl rfl (Nat.le_of_ble_eq_true rfl) (Nat.le_of_ble_eq_true rfl) ⟨rfl, Nat.le_of_ble_eq_true rfl, Nat.le_of_ble_eq_true rfl⟩ hf (fun X z => ok_ck z) rfl (fun X z => T_X3_passDay z) (fun h3 hf => ?_)
      refine rn_aload_n 63 dX4_wouldBeSeen_62 rfl rfl ?_
      refine ro_gtR 66 dX4_wouldBeSeen_63 rfl f_X4_50 ft_4_9 hf (fun r4 hf => ?_)
      refine rn_iload_n 67 dX4_wouldBeSeen_66 rfl rfl ?_
      refine rn_iload 69 dX4_wouldBeSeen_67 rfl rfl ?_
      refine rn_aload_n 70 dX4_wouldBeSeen_69 rfl rfl ?_
      refine ro_gtR 73 dX4_wouldBeSeen_70 rfl f_X4_33 ft_4_4 hf (fun r5 hf => ?_)
      refine rn_iload_n 74 dX4_wouldBeSeen_73 rfl rfl ?_
      refine ro_cVp (M' := M_X3_placeOfEgg) (As := [.int x1]) (o := r5) (st := [.int x5, .int x1, .ref (ad G r4)]) 77 (0, 0) dX4_wouldBeSeen_74 rfl l_X4_170 v_X3_placeOfEgg ⟨Nat.le_of_ble_eq_true rfl, Nat.le_of_ble_eq_true rfl⟩ rfl rfl (Nat.le_of_ble_eq_true rfl) (Nat.le_of_ble_eq_true rfl) ⟨rfl, Nat.le_of_ble_eq_true rfl, Nat.le_of_ble_eq_true rfl⟩ hf (fun X z => ok_ck z) rfl (fun X z => T_X3_placeOfEgg z) (fun v6 hf => ?_)
      refine ro_cVp (M' := M_X0_agree) (As := [.int x1, .int x5, .int v6]) (o := r4) (st := []) 80 (0, 0) dX4_wouldBeSeen_77 rfl l_X4_234 v_X0_agree ⟨Nat.le_of_ble_eq_true rfl, Nat.le_of_ble_eq_true rfl⟩ rfl rfl (Nat.le_of_ble_eq_true rfl) (Nat.le_of_ble_eq_true rfl) ⟨rfl, Nat.le_of_ble_eq_true rfl, Nat.le_of_ble_eq_true rfl⟩ hf (fun X z => ok_ck z) rfl (fun X z => T_X0_agree z) (fun v7 hf => ?_)
      refine ro_if_ne 85 83 dX4_wouldBeSeen_80 rfl rfl hf (fun hf => ?_) (fun hf => ?_)
      · refine rn_iinc (lv' := [(0, .ref (ad G o0)), (1, .int x1), (2, .int x2), (3, .int x3), (4, .int x4), (5, .int (x5 + 1))]) 88 dX4_wouldBeSeen_85 rfl (Nat.le_of_ble_eq_true rfl) rfl (inc_1 _) rfl ?_
        refine rn_goto 44 dX4_wouldBeSeen_88 rfl ?_
        exact ih _ _ hf
      · refine rn_iconst 84 dX4_wouldBeSeen_83 rfl ic_0 ?_
        exact rn_iret .boolean dX4_wouldBeSeen_84 rfl rfl (Or.inl rfl) (ok_some hf :)
theorem T_X4_wouldBeSeen {G : WG} {post : PO} {h : AH} {o : Nat} {x1 : Int32} {x2 : Int32} {x3 : Int32} (hf : OkA (F_X4_wouldBeSeen h o x1 x2 x3) (fun q => post (some q.1) q.2)) : Rn G M_X4_wouldBeSeen (0, 0) 0 [(0, .ref (ad G o)), (1, .int x1), (2, .int x2), (3, .int x3)] [] h post := by
  obtain ⟨_, hf⟩ := ok_ck2 hf
  refine rn_aload_n 1 dX4_wouldBeSeen_0 rfl rfl ?_
  refine ro_gtR 4 dX4_wouldBeSeen_1 rfl f_X4_50 ft_4_9 hf (fun r1 hf => ?_)
  refine rn_iload_n 5 dX4_wouldBeSeen_4 rfl rfl ?_
  refine ro_cVp (M' := M_X0_lastDayOf) (As := [.int x1]) (o := r1) (st := []) 8 (0, 0) dX4_wouldBeSeen_5 rfl l_X4_231 v_X0_lastDayOf ⟨Nat.le_of_ble_eq_true rfl, Nat.le_of_ble_eq_true rfl⟩ rfl rfl (Nat.le_of_ble_eq_true rfl) (Nat.le_of_ble_eq_true rfl) ⟨rfl, Nat.le_of_ble_eq_true rfl, Nat.le_of_ble_eq_true rfl⟩ hf (fun X z => ok_ck z) rfl (fun X z => T_X0_lastDayOf z) (fun v2 hf => ?_)
  refine rn_istore (lv' := [(0, .ref (ad G o)), (1, .int x1), (2, .int x2), (3, .int x3), (4, .int v2)]) 10 dX4_wouldBeSeen_8 rfl (Nat.le_of_ble_eq_true rfl) rfl ?_
  refine rn_aload_n 11 dX4_wouldBeSeen_10 rfl rfl ?_
  refine ro_gtR 14 dX4_wouldBeSeen_11 rfl f_X4_33 ft_4_4 hf (fun r3 hf => ?_)
  refine rn_aload_n 15 dX4_wouldBeSeen_14 rfl rfl ?_
  refine ro_gtR 18 dX4_wouldBeSeen_15 rfl f_X4_29 ft_4_3 hf (fun r4 hf => ?_)
  refine ro_cVv (M' := M_X3_copyFrom) (As := [.ref (ad G r4)]) (o := r3) (st := []) 21 (0, 0) dX4_wouldBeSeen_18 rfl l_X4_163 v_X3_copyFrom ⟨Nat.le_of_ble_eq_true rfl, Nat.le_of_ble_eq_true rfl⟩ rfl rfl (Nat.le_of_ble_eq_true rfl) (Nat.le_of_ble_eq_true rfl) ⟨rfl, Nat.le_of_ble_eq_true rfl, Nat.le_of_ble_eq_true rfl⟩ hf (fun X z => ok_ck z) rfl (fun X z => T_X3_copyFrom z) (fun h5 hf => ?_)
  refine rn_aload_n 22 dX4_wouldBeSeen_21 rfl rfl ?_
  refine ro_gtR 25 dX4_wouldBeSeen_22 rfl f_X4_33 ft_4_4 hf (fun r6 hf => ?_)
  refine ro_gtR 28 dX4_wouldBeSeen_25 rfl f_X4_105 ft_3_4 hf (fun r7 hf => ?_)
  refine rn_iload_n 29 dX4_wouldBeSeen_28 rfl rfl ?_
  refine rn_iload_n 30 dX4_wouldBeSeen_29 rfl rfl ?_
  refine ro_iastore 31 dX4_wouldBeSeen_30 rfl hf (fun h8 hf => ?_)
  refine rn_aload_n 32 dX4_wouldBeSeen_31 rfl rfl ?_
  refine ro_gtR 35 dX4_wouldBeSeen_32 rfl f_X4_33 ft_4_4 hf (fun r9 hf => ?_)
  refine ro_gtR 38 dX4_wouldBeSeen_35 rfl f_X4_108 ft_3_5 hf (fun r10 hf => ?_)
  refine rn_iload_n 39 dX4_wouldBeSeen_38 rfl rfl ?_
  refine rn_iload_n 40 dX4_wouldBeSeen_39 rfl rfl ?_
  refine ro_iastore 41 dX4_wouldBeSeen_40 rfl hf (fun h11 hf => ?_)
  refine rn_iconst 42 dX4_wouldBeSeen_41 rfl ic_1 ?_
  refine rn_istore (lv' := [(0, .ref (ad G o)), (1, .int x1), (2, .int x2), (3, .int x3), (4, .int v2), (5, .int 1)]) 44 dX4_wouldBeSeen_42 rfl (Nat.le_of_ble_eq_true rfl) rfl ?_
  refine TL_X4_wouldBeSeen_44 ?_ FU _ _ hf
  intro h12 y13 hf
  refine rn_iconst 92 dX4_wouldBeSeen_91 rfl ic_1 ?_
  exact rn_iret .boolean dX4_wouldBeSeen_92 rfl rfl (Or.inl rfl) (ok_some hf :)
theorem TL_X4_kinds_15 {G : WG} {post : PO} {β : Type} {P : β → Prop} {o0 : Nat} {x1 : Int32} {k : AH → Int32 → Int32 → Option (β)} (hk : ∀ (h : AH) (x2 : Int32) (x3 : Int32), OkA (k h x2 x3) P → Rn G M_X4_kinds (0, 0) 50 [(0, .ref (ad G o0)), (1, .int x1), (2, .int x2), (3, .int x3)] [] h post) : ∀ (n : Nat) (h : AH) (x2 : Int32) (x3 : Int32), OkA (L_X4_kinds_15 o0 x1 k n h x2 x3) P → Rn G M_X4_kinds (0, 0) 15 [(0, .ref (ad G o0)), (1, .int x1), (2, .int x2), (3, .int x3)] [] h post := by
  intro n
  induction n with
  | zero => intro _ _ _ hf; exact absurd hf ok_none
  | succ n ih =>
    intro h x2 x3 hf
    refine rn_iload_n 16 dX4_kinds_15 rfl rfl ?_
    refine rn_iconst 17 dX4_kinds_16 rfl ic_3 ?_
    refine ro_icmp_gt 50 20 dX4_kinds_17 rfl rfl hf (fun hf => ?_) (fun hf => ?_)
    · exact hk _ _ _ hf
    · refine rn_aload_n 21 dX4_kinds_20 rfl rfl ?_
      refine rn_iload_n 22 dX4_kinds_21 rfl rfl ?_
      refine rn_iload_n 23 dX4_kinds_22 rfl rfl ?_
      refine rn_aload_n 24 dX4_kinds_23 rfl rfl ?_
      refine ro_gtR 27 dX4_kinds_24 rfl f_X4_29 ft_4_3 hf (fun r1 hf => ?_)
      refine ro_gtR 30 dX4_kinds_27 rfl f_X4_108 ft_3_5 hf (fun r2 hf => ?_)
      refine rn_iload_n 31 dX4_kinds_30 rfl rfl ?_
      refine ro_iaload 32 dX4_kinds_31 rfl hf (fun v3 hf => ?_)
      refine ro_cVi (M' := M_X4_wouldBeSeen) (As := [.int x1, .int x3, .int v3]) (o := o0) (st := []) 35 (0, 0) dX4_kinds_32 rfl l_X4_191 v_X4_wouldBeSeen ⟨Nat.le_of_ble_eq_true rfl, Nat.le_of_ble_eq_true rfl⟩ rfl rfl (Nat.le_of_ble_eq_true rfl) (Nat.le_of_ble_eq_true rfl) ⟨rfl, Nat.le_of_ble_eq_true rfl, Nat.le_of_ble_eq_true rfl⟩ hf (fun X z => ok_ck z) rfl (fun X z => T_X4_wouldBeSeen z) (fun q4 hf => ?_)
      refine ro_reg (X := (fun q5 : Int32 => Rn G M_X4_kinds (0, 0) 44 [(0, .ref (ad G o0)), (1, .int x1), (2, .int q5), (3, .int x3)] [] q4.2 post)) hf (fun q5 hf => ?_) (fun hf => ?_)
      · refine rn_iinc (lv' := [(0, .ref (ad G o0)), (1, .int x1), (2, .int q5), (3, .int (x3 + 1))]) 47 dX4_kinds_44 rfl (Nat.le_of_ble_eq_true rfl) rfl (inc_1 _) rfl ?_
        refine rn_goto 15 dX4_kinds_47 rfl ?_
        exact ih _ _ _ hf
      · refine ro_if_eq 44 38 dX4_kinds_35 rfl rfl hf (fun hf => ?_) (fun hf => ?_)
        · exact (ok_some hf :)
        · refine rn_iload_n 39 dX4_kinds_38 rfl rfl ?_
          refine rn_iconst 40 dX4_kinds_39 rfl ic_1 ?_
          refine rn_iload_n 41 dX4_kinds_40 rfl rfl ?_
          refine rn_ishl 42 dX4_kinds_41 rfl ?_
          refine rn_ior 43 dX4_kinds_42 rfl ?_
          refine rn_istore_n (lv' := [(0, .ref (ad G o0)), (1, .int x1), (2, .int (x2 ||| (1 <<< (x3 &&& 31)))), (3, .int x3)]) 44 dX4_kinds_43 rfl (Nat.le_of_ble_eq_true rfl) rfl ?_
          exact (ok_some hf :)
theorem T_X4_kinds {G : WG} {post : PO} {h : AH} {o : Nat} {x1 : Int32} (hf : OkA (F_X4_kinds h o x1) (fun q => post (some q.1) q.2)) : Rn G M_X4_kinds (0, 0) 0 [(0, .ref (ad G o)), (1, .int x1)] [] h post := by
  obtain ⟨_, hf⟩ := ok_ck2 hf
  refine rn_aload_n 1 dX4_kinds_0 rfl rfl ?_
  refine rn_iload_n 2 dX4_kinds_1 rfl rfl ?_
  refine ro_cVp (M' := M_X4_isHen) (As := [.int x1]) (o := o) (st := []) 5 (0, 0) dX4_kinds_2 rfl l_X4_102 v_X4_isHen ⟨Nat.le_of_ble_eq_true rfl, Nat.le_of_ble_eq_true rfl⟩ rfl rfl (Nat.le_of_ble_eq_true rfl) (Nat.le_of_ble_eq_true rfl) ⟨rfl, Nat.le_of_ble_eq_true rfl, Nat.le_of_ble_eq_true rfl⟩ hf (fun X z => ok_ck z) rfl (fun X z => T_X4_isHen z) (fun v1 hf => ?_)
  refine ro_if_ne 11 8 dX4_kinds_5 rfl rfl hf (fun hf => ?_) (fun hf => ?_)
  · refine rn_iconst 12 dX4_kinds_11 rfl ic_0 ?_
    refine rn_istore_n (lv' := [(0, .ref (ad G o)), (1, .int x1), (2, .int 0)]) 13 dX4_kinds_12 rfl (Nat.le_of_ble_eq_true rfl) rfl ?_
    refine rn_iconst 14 dX4_kinds_13 rfl ic_0 ?_
    refine rn_istore_n (lv' := [(0, .ref (ad G o)), (1, .int x1), (2, .int 0), (3, .int 0)]) 15 dX4_kinds_14 rfl (Nat.le_of_ble_eq_true rfl) rfl ?_
    refine TL_X4_kinds_15 ?_ FU _ _ _ hf
    intro h6 y7 y8 hf
    refine rn_iload_n 51 dX4_kinds_50 rfl rfl ?_
    exact rn_iret .int dX4_kinds_51 rfl rfl (Or.inl rfl) (ok_some hf :)
  · refine rn_bipush 10 dX4_kinds_8 rfl bp_m2 ?_
    exact rn_iret .int dX4_kinds_10 rfl rfl (Or.inl rfl) (ok_some hf :)
theorem TL_X5_comes_22 {G : WG} {post : PO} {β : Type} {P : β → Prop} {h : AH} {o0 : Nat} {x1 : Int32} {x3 : Int32} {k : Int32 → Int32 → Option (β)} (hk : ∀ (x2 : Int32) (x4 : Int32), OkA (k x2 x4) P → Rn G M_X5_comes (0, 0) 107 [(0, .ref (ad G o0)), (1, .int x1), (2, .int x2), (3, .int x3), (4, .int x4)] [] h post) : ∀ (n : Nat) (x2 : Int32) (x4 : Int32), OkA (L_X5_comes_22 h o0 x1 x3 k n x2 x4) P → Rn G M_X5_comes (0, 0) 22 [(0, .ref (ad G o0)), (1, .int x1), (2, .int x2), (3, .int x3), (4, .int x4)] [] h post := by
  intro n
  induction n with
  | zero => intro _ _ hf; exact absurd hf ok_none
  | succ n ih =>
    intro x2 x4 hf
    refine rn_iload 24 dX5_comes_22 rfl rfl ?_
    refine rn_aload_n 25 dX5_comes_24 rfl rfl ?_
    refine ro_gtI 28 dX5_comes_25 rfl f_X5_58 ft_5_10 hf (fun v1 hf => ?_)
    refine ro_icmp_ge 107 31 dX5_comes_28 rfl rfl hf (fun hf => ?_) (fun hf => ?_)
    · exact hk _ _ hf
    · refine rn_aload_n 32 dX5_comes_31 rfl rfl ?_
      refine ro_gtR 35 dX5_comes_32 rfl f_X5_32 ft_5_9 hf (fun r2 hf => ?_)
      refine rn_iconst 36 dX5_comes_35 rfl ic_3 ?_
      refine rn_iload 38 dX5_comes_36 rfl rfl ?_
      refine rn_imul 39 dX5_comes_38 rfl ?_
      refine ro_iaload 40 dX5_comes_39 rfl hf (fun v3 hf => ?_)
      refine rn_iload_n 41 dX5_comes_40 rfl rfl ?_
      refine ro_reg (X := (fun q4 : Int32 => Rn G M_X5_comes (0, 0) 64 [(0, .ref (ad G o0)), (1, .int x1), (2, .int x2), (3, .int x3), (4, .int x4)] [.int q4] h post)) hf (fun q4 hf => ?_) (fun hf => ?_)
      · refine rn_istore (lv' := [(0, .ref (ad G o0)), (1, .int x1), (2, .int x2), (3, .int x3), (4, .int x4), (5, .int q4)]) 66 dX5_comes_64 rfl (Nat.le_of_ble_eq_true rfl) rfl ?_
        refine rn_iload_n 67 dX5_comes_66 rfl rfl ?_
        refine ro_reg (X := (fun q7 : Int32 => Rn G M_X5_comes (0, 0) 100 [(0, .ref (ad G o0)), (1, .int x1), (2, .int x2), (3, .int x3), (4, .int x4), (5, .int q4)] [.int q7] h post)) hf (fun q7 hf => ?_) (fun hf => ?_)
        · refine rn_istore_n (lv' := [(0, .ref (ad G o0)), (1, .int x1), (2, .int q7), (3, .int x3), (4, .int x4), (5, .int q4)]) 101 dX5_comes_100 rfl (Nat.le_of_ble_eq_true rfl) rfl ?_
          refine rn_iinc (lv' := [(0, .ref (ad G o0)), (1, .int x1), (2, .int q7), (3, .int x3), (4, .int (x4 + 1)), (5, .int q4)]) 104 dX5_comes_101 rfl (Nat.le_of_ble_eq_true rfl) rfl (inc_1 _) rfl ?_
          refine rn_goto 22 dX5_comes_104 rfl ?_
          refine rn_take (lv' := [(0, .ref (ad G o0)), (1, .int x1), (2, .int q7), (3, .int x3), (4, .int (x4 + 1))]) [0, 1, 2, 3, 4] rfl ?_
          exact ih _ _ hf
        · refine ro_if_eq 99 70 dX5_comes_67 rfl rfl hf (fun hf => ?_) (fun hf => ?_)
          · refine rn_iconst 100 dX5_comes_99 rfl ic_0 ?_
            exact (ok_some hf :)
          · refine rn_iload 72 dX5_comes_70 rfl rfl ?_
            refine ro_if_eq 95 75 dX5_comes_72 rfl rfl hf (fun hf => ?_) (fun hf => ?_)
            · refine rn_iconst 96 dX5_comes_95 rfl ic_1 ?_
              refine rn_goto 100 dX5_comes_96 rfl ?_
              exact (ok_some hf :)
            · refine rn_aload_n 76 dX5_comes_75 rfl rfl ?_
              refine ro_gtR 79 dX5_comes_76 rfl f_X5_41 ft_5_19 hf (fun r8 hf => ?_)
              refine rn_iload_n 80 dX5_comes_79 rfl rfl ?_
              refine ro_iaload 81 dX5_comes_80 rfl hf (fun v9 hf => ?_)
              refine rn_aload_n 82 dX5_comes_81 rfl rfl ?_
              refine ro_gtR 85 dX5_comes_82 rfl f_X5_32 ft_5_9 hf (fun r10 hf => ?_)
              refine rn_iconst 86 dX5_comes_85 rfl ic_3 ?_
              refine rn_iload 88 dX5_comes_86 rfl rfl ?_
              refine rn_imul 89 dX5_comes_88 rfl ?_
              refine rn_iconst 90 dX5_comes_89 rfl ic_2 ?_
              refine rn_iadd 91 dX5_comes_90 rfl ?_
              refine ro_iaload 92 dX5_comes_91 rfl hf (fun v11 hf => ?_)
              refine ro_icmp_ne 99 95 dX5_comes_92 rfl rfl hf (fun hf => ?_) (fun hf => ?_)
              · refine rn_iconst 100 dX5_comes_99 rfl ic_0 ?_
                exact (ok_some hf :)
              · refine rn_iconst 96 dX5_comes_95 rfl ic_1 ?_
                refine rn_goto 100 dX5_comes_96 rfl ?_
                exact (ok_some hf :)
      · refine ro_icmp_ne 63 44 dX5_comes_41 rfl rfl hf (fun hf => ?_) (fun hf => ?_)
        · refine rn_iconst 64 dX5_comes_63 rfl ic_0 ?_
          exact (ok_some hf :)
        · refine rn_aload_n 45 dX5_comes_44 rfl rfl ?_
          refine ro_gtR 48 dX5_comes_45 rfl f_X5_32 ft_5_9 hf (fun r5 hf => ?_)
          refine rn_iconst 49 dX5_comes_48 rfl ic_3 ?_
          refine rn_iload 51 dX5_comes_49 rfl rfl ?_
          refine rn_imul 52 dX5_comes_51 rfl ?_
          refine rn_iconst 53 dX5_comes_52 rfl ic_1 ?_
          refine rn_iadd 54 dX5_comes_53 rfl ?_
          refine ro_iaload 55 dX5_comes_54 rfl hf (fun v6 hf => ?_)
          refine rn_iload_n 56 dX5_comes_55 rfl rfl ?_
          refine ro_icmp_ne 63 59 dX5_comes_56 rfl rfl hf (fun hf => ?_) (fun hf => ?_)
          · refine rn_iconst 64 dX5_comes_63 rfl ic_0 ?_
            exact (ok_some hf :)
          · refine rn_iconst 60 dX5_comes_59 rfl ic_1 ?_
            refine rn_goto 64 dX5_comes_60 rfl ?_
            exact (ok_some hf :)
theorem TL_X5_comes_8 {G : WG} {post : PO} {β : Type} {P : β → Prop} {o0 : Nat} {x1 : Int32} {k : AH → Int32 → Int32 → Option (β)} (hk : ∀ (h : AH) (x2 : Int32) (x3 : Int32), OkA (k h x2 x3) P → Rn G M_X5_comes (0, 0) 113 [(0, .ref (ad G o0)), (1, .int x1), (2, .int x2), (3, .int x3)] [] h post) : ∀ (n : Nat) (h : AH) (x2 : Int32) (x3 : Int32), OkA (L_X5_comes_8 o0 x1 k n h x2 x3) P → Rn G M_X5_comes (0, 0) 8 [(0, .ref (ad G o0)), (1, .int x1), (2, .int x2), (3, .int x3)] [] h post := by
  intro n
  induction n with
  | zero => intro _ _ _ hf; exact absurd hf ok_none
  | succ n ih =>
    intro h x2 x3 hf
    refine rn_iload_n 9 dX5_comes_8 rfl rfl ?_
    refine rn_bipush 11 dX5_comes_9 rfl bp_15 ?_
    refine ro_icmp_ge 113 14 dX5_comes_11 rfl rfl hf (fun hf => ?_) (fun hf => ?_)
    · exact hk _ _ _ hf
    · refine rn_aload_n 15 dX5_comes_14 rfl rfl ?_
      refine rn_iconst 16 dX5_comes_15 rfl ic_1 ?_
      refine ro_cVv (M' := M_X5_go) (As := [.int 1]) (o := o0) (st := []) 19 (0, 0) dX5_comes_16 rfl l_X5_197 v_X5_go ⟨Nat.le_of_ble_eq_true rfl, Nat.le_of_ble_eq_true rfl⟩ rfl rfl (Nat.le_of_ble_eq_true rfl) (Nat.le_of_ble_eq_true rfl) ⟨rfl, Nat.le_of_ble_eq_true rfl, Nat.le_of_ble_eq_true rfl⟩ hf (fun X z => ok_ck z) rfl (fun X z => T_X5_go z) (fun h1 hf => ?_)
      refine rn_iconst 20 dX5_comes_19 rfl ic_0 ?_
      refine rn_istore (lv' := [(0, .ref (ad G o0)), (1, .int x1), (2, .int x2), (3, .int x3), (4, .int 0)]) 22 dX5_comes_20 rfl (Nat.le_of_ble_eq_true rfl) rfl ?_
      refine TL_X5_comes_22 ?_ FU _ _ hf
      intro y12 y13 hf
      refine rn_iinc (lv' := [(0, .ref (ad G o0)), (1, .int x1), (2, .int y12), (3, .int (x3 + 1)), (4, .int y13)]) 110 dX5_comes_107 rfl (Nat.le_of_ble_eq_true rfl) rfl (inc_1 _) rfl ?_
      refine rn_goto 8 dX5_comes_110 rfl ?_
      refine rn_take (lv' := [(0, .ref (ad G o0)), (1, .int x1), (2, .int y12), (3, .int (x3 + 1))]) [0, 1, 2, 3] rfl ?_
      exact ih _ _ _ hf
theorem T_X5_comes {G : WG} {post : PO} {h : AH} {o : Nat} {x1 : Int32} (hf : OkA (F_X5_comes h o x1) (fun q => post (some q.1) q.2)) : Rn G M_X5_comes (0, 0) 0 [(0, .ref (ad G o)), (1, .int x1)] [] h post := by
  obtain ⟨_, hf⟩ := ok_ck2 hf
  refine rn_aload_n 1 dX5_comes_0 rfl rfl ?_
  refine ro_cVv (M' := M_X5_layAside) (As := []) (o := o) (st := []) 4 (0, 0) dX5_comes_1 rfl l_X5_194 v_X5_layAside ⟨Nat.le_of_ble_eq_true rfl, Nat.le_of_ble_eq_true rfl⟩ rfl rfl (Nat.le_of_ble_eq_true rfl) (Nat.le_of_ble_eq_true rfl) ⟨rfl, Nat.le_of_ble_eq_true rfl, Nat.le_of_ble_eq_true rfl⟩ hf (fun X z => ok_ck z) rfl (fun X z => T_X5_layAside z) (fun h1 hf => ?_)
  refine rn_iconst 5 dX5_comes_4 rfl ic_1 ?_
  refine rn_istore_n (lv' := [(0, .ref (ad G o)), (1, .int x1), (2, .int 1)]) 6 dX5_comes_5 rfl (Nat.le_of_ble_eq_true rfl) rfl ?_
  refine rn_iconst 7 dX5_comes_6 rfl ic_1 ?_
  refine rn_istore_n (lv' := [(0, .ref (ad G o)), (1, .int x1), (2, .int 1), (3, .int 1)]) 8 dX5_comes_7 rfl (Nat.le_of_ble_eq_true rfl) rfl ?_
  refine TL_X5_comes_8 ?_ FU _ _ _ hf
  intro h14 y15 y16 hf
  refine rn_iload_n 114 dX5_comes_113 rfl rfl ?_
  exact ro_zret dX5_comes_114 rfl (Or.inl rfl) hf (fun v17 hf => (ok_some hf :))
theorem TL_X5_kinds_19 {G : WG} {post : PO} {β : Type} {P : β → Prop} {o0 : Nat} {x1 : Int32} {k : AH → Int32 → Int32 → Option (β)} (hk : ∀ (h : AH) (x2 : Int32) (x3 : Int32), OkA (k h x2 x3) P → Rn G M_X5_kinds (0, 0) 55 [(0, .ref (ad G o0)), (1, .int x1), (2, .int x2), (3, .int x3)] [] h post) : ∀ (n : Nat) (h : AH) (x2 : Int32) (x3 : Int32), OkA (L_X5_kinds_19 o0 x1 k n h x2 x3) P → Rn G M_X5_kinds (0, 0) 19 [(0, .ref (ad G o0)), (1, .int x1), (2, .int x2), (3, .int x3)] [] h post := by
  intro n
  induction n with
  | zero => intro _ _ _ hf; exact absurd hf ok_none
  | succ n ih =>
    intro h x2 x3 hf
    refine rn_iload_n 20 dX5_kinds_19 rfl rfl ?_
    refine rn_iconst 21 dX5_kinds_20 rfl ic_4 ?_
    refine ro_icmp_ge 55 24 dX5_kinds_21 rfl rfl hf (fun hf => ?_) (fun hf => ?_)
    · exact hk _ _ _ hf
    · refine rn_aload_n 25 dX5_kinds_24 rfl rfl ?_
      refine ro_gtR 28 dX5_kinds_25 rfl f_X5_35 ft_5_17 hf (fun r1 hf => ?_)
      refine rn_iload_n 29 dX5_kinds_28 rfl rfl ?_
      refine rn_iload_n 30 dX5_kinds_29 rfl rfl ?_
      refine ro_iastore 31 dX5_kinds_30 rfl hf (fun h2 hf => ?_)
      refine rn_iload_n 32 dX5_kinds_31 rfl rfl ?_
      refine rn_aload_n 33 dX5_kinds_32 rfl rfl ?_
      refine rn_iload_n 34 dX5_kinds_33 rfl rfl ?_
      refine ro_cVi (M' := M_X5_comes) (As := [.int x1]) (o := o0) (st := [.int x2]) 37 (0, 0) dX5_kinds_34 rfl l_X5_208 v_X5_comes ⟨Nat.le_of_ble_eq_true rfl, Nat.le_of_ble_eq_true rfl⟩ rfl rfl (Nat.le_of_ble_eq_true rfl) (Nat.le_of_ble_eq_true rfl) ⟨rfl, Nat.le_of_ble_eq_true rfl, Nat.le_of_ble_eq_true rfl⟩ hf (fun X z => ok_ck z) rfl (fun X z => T_X5_comes z) (fun q3 hf => ?_)
      refine ro_reg (X := (fun q4 : Int32 => Rn G M_X5_kinds (0, 0) 47 [(0, .ref (ad G o0)), (1, .int x1), (2, .int x2), (3, .int x3)] [.int q4, .int x2] q3.2 post)) hf (fun q4 hf => ?_) (fun hf => ?_)
      · refine rn_ior 48 dX5_kinds_47 rfl ?_
        refine rn_istore_n (lv' := [(0, .ref (ad G o0)), (1, .int x1), (2, .int (x2 ||| q4)), (3, .int x3)]) 49 dX5_kinds_48 rfl (Nat.le_of_ble_eq_true rfl) rfl ?_
        refine rn_iinc (lv' := [(0, .ref (ad G o0)), (1, .int x1), (2, .int (x2 ||| q4)), (3, .int (x3 + 1))]) 52 dX5_kinds_49 rfl (Nat.le_of_ble_eq_true rfl) rfl (inc_1 _) rfl ?_
        refine rn_goto 19 dX5_kinds_52 rfl ?_
        exact ih _ _ _ hf
      · refine ro_if_eq 46 40 dX5_kinds_37 rfl rfl hf (fun hf => ?_) (fun hf => ?_)
        · refine rn_iconst 47 dX5_kinds_46 rfl ic_0 ?_
          exact (ok_some hf :)
        · refine rn_iconst 41 dX5_kinds_40 rfl ic_1 ?_
          refine rn_iload_n 42 dX5_kinds_41 rfl rfl ?_
          refine rn_ishl 43 dX5_kinds_42 rfl ?_
          refine rn_goto 47 dX5_kinds_43 rfl ?_
          exact (ok_some hf :)
theorem T_X5_kinds {G : WG} {post : PO} {h : AH} {o : Nat} {x1 : Int32} (hf : OkA (F_X5_kinds h o x1) (fun q => post (some q.1) q.2)) : Rn G M_X5_kinds (0, 0) 0 [(0, .ref (ad G o)), (1, .int x1)] [] h post := by
  obtain ⟨_, hf⟩ := ok_ck2 hf
  refine rn_aload_n 1 dX5_kinds_0 rfl rfl ?_
  refine rn_iload_n 2 dX5_kinds_1 rfl rfl ?_
  refine ro_cVp (M' := M_X5_isHen) (As := [.int x1]) (o := o) (st := []) 5 (0, 0) dX5_kinds_2 rfl l_X5_166 v_X5_isHen ⟨Nat.le_of_ble_eq_true rfl, Nat.le_of_ble_eq_true rfl⟩ rfl rfl (Nat.le_of_ble_eq_true rfl) (Nat.le_of_ble_eq_true rfl) ⟨rfl, Nat.le_of_ble_eq_true rfl, Nat.le_of_ble_eq_true rfl⟩ hf (fun X z => ok_ck z) rfl (fun X z => T_X5_isHen z) (fun v1 hf => ?_)
  refine ro_if_ne 11 8 dX5_kinds_5 rfl rfl hf (fun hf => ?_) (fun hf => ?_)
  · refine rn_aload_n 12 dX5_kinds_11 rfl rfl ?_
    refine ro_cVv (M' := M_X5_asTold) (As := []) (o := o) (st := []) 15 (0, 0) dX5_kinds_12 rfl l_X5_173 v_X5_asTold ⟨Nat.le_of_ble_eq_true rfl, Nat.le_of_ble_eq_true rfl⟩ rfl rfl (Nat.le_of_ble_eq_true rfl) (Nat.le_of_ble_eq_true rfl) ⟨rfl, Nat.le_of_ble_eq_true rfl, Nat.le_of_ble_eq_true rfl⟩ hf (fun X z => ok_ck z) rfl (fun X z => T_X5_asTold z) (fun h2 hf => ?_)
    refine rn_iconst 16 dX5_kinds_15 rfl ic_0 ?_
    refine rn_istore_n (lv' := [(0, .ref (ad G o)), (1, .int x1), (2, .int 0)]) 17 dX5_kinds_16 rfl (Nat.le_of_ble_eq_true rfl) rfl ?_
    refine rn_iconst 18 dX5_kinds_17 rfl ic_0 ?_
    refine rn_istore_n (lv' := [(0, .ref (ad G o)), (1, .int x1), (2, .int 0), (3, .int 0)]) 19 dX5_kinds_18 rfl (Nat.le_of_ble_eq_true rfl) rfl ?_
    refine TL_X5_kinds_19 ?_ FU _ _ _ hf
    intro h5 y6 y7 hf
    refine rn_iload_n 56 dX5_kinds_55 rfl rfl ?_
    exact rn_iret .int dX5_kinds_56 rfl rfl (Or.inl rfl) (ok_some hf :)
  · refine rn_bipush 10 dX5_kinds_8 rfl bp_m2 ?_
    exact rn_iret .int dX5_kinds_10 rfl rfl (Or.inl rfl) (ok_some hf :)
theorem TL_X4_habits_15 {G : WG} {post : PO} {β : Type} {P : β → Prop} {o0 : Nat} {x1 : Int32} {k : AH → Int32 → Int32 → Option (β)} (hk : ∀ (h : AH) (x2 : Int32) (x3 : Int32), OkA (k h x2 x3) P → Rn G M_X4_habits (0, 0) 51 [(0, .ref (ad G o0)), (1, .int x1), (2, .int x2), (3, .int x3)] [] h post) : ∀ (n : Nat) (h : AH) (x2 : Int32) (x3 : Int32), OkA (L_X4_habits_15 o0 x1 k n h x2 x3) P → Rn G M_X4_habits (0, 0) 15 [(0, .ref (ad G o0)), (1, .int x1), (2, .int x2), (3, .int x3)] [] h post := by
  intro n
  induction n with
  | zero => intro _ _ _ hf; exact absurd hf ok_none
  | succ n ih =>
    intro h x2 x3 hf
    refine rn_iload_n 16 dX4_habits_15 rfl rfl ?_
    refine rn_bipush 18 dX4_habits_16 rfl bp_9 ?_
    refine ro_icmp_gt 51 21 dX4_habits_18 rfl rfl hf (fun hf => ?_) (fun hf => ?_)
    · exact hk _ _ _ hf
    · refine rn_aload_n 22 dX4_habits_21 rfl rfl ?_
      refine rn_iload_n 23 dX4_habits_22 rfl rfl ?_
      refine rn_aload_n 24 dX4_habits_23 rfl rfl ?_
      refine ro_gtR 27 dX4_habits_24 rfl f_X4_29 ft_4_3 hf (fun r1 hf => ?_)
      refine ro_gtR 30 dX4_habits_27 rfl f_X4_105 ft_3_4 hf (fun r2 hf => ?_)
      refine rn_iload_n 31 dX4_habits_30 rfl rfl ?_
      refine ro_iaload 32 dX4_habits_31 rfl hf (fun v3 hf => ?_)
      refine rn_iload_n 33 dX4_habits_32 rfl rfl ?_
      refine ro_cVi (M' := M_X4_wouldBeSeen) (As := [.int x1, .int v3, .int x3]) (o := o0) (st := []) 36 (0, 0) dX4_habits_33 rfl l_X4_191 v_X4_wouldBeSeen ⟨Nat.le_of_ble_eq_true rfl, Nat.le_of_ble_eq_true rfl⟩ rfl rfl (Nat.le_of_ble_eq_true rfl) (Nat.le_of_ble_eq_true rfl) ⟨rfl, Nat.le_of_ble_eq_true rfl, Nat.le_of_ble_eq_true rfl⟩ hf (fun X z => ok_ck z) rfl (fun X z => T_X4_wouldBeSeen z) (fun q4 hf => ?_)
      refine ro_reg (X := (fun q5 : Int32 => Rn G M_X4_habits (0, 0) 45 [(0, .ref (ad G o0)), (1, .int x1), (2, .int q5), (3, .int x3)] [] q4.2 post)) hf (fun q5 hf => ?_) (fun hf => ?_)
      · refine rn_iinc (lv' := [(0, .ref (ad G o0)), (1, .int x1), (2, .int q5), (3, .int (x3 + 1))]) 48 dX4_habits_45 rfl (Nat.le_of_ble_eq_true rfl) rfl (inc_1 _) rfl ?_
        refine rn_goto 15 dX4_habits_48 rfl ?_
        exact ih _ _ _ hf
      · refine ro_if_eq 45 39 dX4_habits_36 rfl rfl hf (fun hf => ?_) (fun hf => ?_)
        · exact (ok_some hf :)
        · refine rn_iload_n 40 dX4_habits_39 rfl rfl ?_
          refine rn_iconst 41 dX4_habits_40 rfl ic_1 ?_
          refine rn_iload_n 42 dX4_habits_41 rfl rfl ?_
          refine rn_ishl 43 dX4_habits_42 rfl ?_
          refine rn_ior 44 dX4_habits_43 rfl ?_
          refine rn_istore_n (lv' := [(0, .ref (ad G o0)), (1, .int x1), (2, .int (x2 ||| (1 <<< (x3 &&& 31)))), (3, .int x3)]) 45 dX4_habits_44 rfl (Nat.le_of_ble_eq_true rfl) rfl ?_
          exact (ok_some hf :)
theorem T_X4_habits {G : WG} {post : PO} {h : AH} {o : Nat} {x1 : Int32} (hf : OkA (F_X4_habits h o x1) (fun q => post (some q.1) q.2)) : Rn G M_X4_habits (0, 0) 0 [(0, .ref (ad G o)), (1, .int x1)] [] h post := by
  obtain ⟨_, hf⟩ := ok_ck2 hf
  refine rn_aload_n 1 dX4_habits_0 rfl rfl ?_
  refine rn_iload_n 2 dX4_habits_1 rfl rfl ?_
  refine ro_cVp (M' := M_X4_isHen) (As := [.int x1]) (o := o) (st := []) 5 (0, 0) dX4_habits_2 rfl l_X4_102 v_X4_isHen ⟨Nat.le_of_ble_eq_true rfl, Nat.le_of_ble_eq_true rfl⟩ rfl rfl (Nat.le_of_ble_eq_true rfl) (Nat.le_of_ble_eq_true rfl) ⟨rfl, Nat.le_of_ble_eq_true rfl, Nat.le_of_ble_eq_true rfl⟩ hf (fun X z => ok_ck z) rfl (fun X z => T_X4_isHen z) (fun v1 hf => ?_)
  refine ro_if_ne 11 8 dX4_habits_5 rfl rfl hf (fun hf => ?_) (fun hf => ?_)
  · refine rn_iconst 12 dX4_habits_11 rfl ic_0 ?_
    refine rn_istore_n (lv' := [(0, .ref (ad G o)), (1, .int x1), (2, .int 0)]) 13 dX4_habits_12 rfl (Nat.le_of_ble_eq_true rfl) rfl ?_
    refine rn_iconst 14 dX4_habits_13 rfl ic_0 ?_
    refine rn_istore_n (lv' := [(0, .ref (ad G o)), (1, .int x1), (2, .int 0), (3, .int 0)]) 15 dX4_habits_14 rfl (Nat.le_of_ble_eq_true rfl) rfl ?_
    refine TL_X4_habits_15 ?_ FU _ _ _ hf
    intro h6 y7 y8 hf
    refine rn_iload_n 52 dX4_habits_51 rfl rfl ?_
    exact rn_iret .int dX4_habits_52 rfl rfl (Or.inl rfl) (ok_some hf :)
  · refine rn_bipush 10 dX4_habits_8 rfl bp_m2 ?_
    exact rn_iret .int dX4_habits_10 rfl rfl (Or.inl rfl) (ok_some hf :)
theorem TL_X5_habits_19 {G : WG} {post : PO} {β : Type} {P : β → Prop} {o0 : Nat} {x1 : Int32} {k : AH → Int32 → Int32 → Option (β)} (hk : ∀ (h : AH) (x2 : Int32) (x3 : Int32), OkA (k h x2 x3) P → Rn G M_X5_habits (0, 0) 56 [(0, .ref (ad G o0)), (1, .int x1), (2, .int x2), (3, .int x3)] [] h post) : ∀ (n : Nat) (h : AH) (x2 : Int32) (x3 : Int32), OkA (L_X5_habits_19 o0 x1 k n h x2 x3) P → Rn G M_X5_habits (0, 0) 19 [(0, .ref (ad G o0)), (1, .int x1), (2, .int x2), (3, .int x3)] [] h post := by
  intro n
  induction n with
  | zero => intro _ _ _ hf; exact absurd hf ok_none
  | succ n ih =>
    intro h x2 x3 hf
    refine rn_iload_n 20 dX5_habits_19 rfl rfl ?_
    refine rn_bipush 22 dX5_habits_20 rfl bp_10 ?_
    refine ro_icmp_ge 56 25 dX5_habits_22 rfl rfl hf (fun hf => ?_) (fun hf => ?_)
    · exact hk _ _ _ hf
    · refine rn_aload_n 26 dX5_habits_25 rfl rfl ?_
      refine ro_gtR 29 dX5_habits_26 rfl f_X5_38 ft_5_18 hf (fun r1 hf => ?_)
      refine rn_iload_n 30 dX5_habits_29 rfl rfl ?_
      refine rn_iload_n 31 dX5_habits_30 rfl rfl ?_
      refine ro_iastore 32 dX5_habits_31 rfl hf (fun h2 hf => ?_)
      refine rn_iload_n 33 dX5_habits_32 rfl rfl ?_
      refine rn_aload_n 34 dX5_habits_33 rfl rfl ?_
      refine rn_iload_n 35 dX5_habits_34 rfl rfl ?_
      refine ro_cVi (M' := M_X5_comes) (As := [.int x1]) (o := o0) (st := [.int x2]) 38 (0, 0) dX5_habits_35 rfl l_X5_208 v_X5_comes ⟨Nat.le_of_ble_eq_true rfl, Nat.le_of_ble_eq_true rfl⟩ rfl rfl (Nat.le_of_ble_eq_true rfl) (Nat.le_of_ble_eq_true rfl) ⟨rfl, Nat.le_of_ble_eq_true rfl, Nat.le_of_ble_eq_true rfl⟩ hf (fun X z => ok_ck z) rfl (fun X z => T_X5_comes z) (fun q3 hf => ?_)
      refine ro_reg (X := (fun q4 : Int32 => Rn G M_X5_habits (0, 0) 48 [(0, .ref (ad G o0)), (1, .int x1), (2, .int x2), (3, .int x3)] [.int q4, .int x2] q3.2 post)) hf (fun q4 hf => ?_) (fun hf => ?_)
      · refine rn_ior 49 dX5_habits_48 rfl ?_
        refine rn_istore_n (lv' := [(0, .ref (ad G o0)), (1, .int x1), (2, .int (x2 ||| q4)), (3, .int x3)]) 50 dX5_habits_49 rfl (Nat.le_of_ble_eq_true rfl) rfl ?_
        refine rn_iinc (lv' := [(0, .ref (ad G o0)), (1, .int x1), (2, .int (x2 ||| q4)), (3, .int (x3 + 1))]) 53 dX5_habits_50 rfl (Nat.le_of_ble_eq_true rfl) rfl (inc_1 _) rfl ?_
        refine rn_goto 19 dX5_habits_53 rfl ?_
        exact ih _ _ _ hf
      · refine ro_if_eq 47 41 dX5_habits_38 rfl rfl hf (fun hf => ?_) (fun hf => ?_)
        · refine rn_iconst 48 dX5_habits_47 rfl ic_0 ?_
          exact (ok_some hf :)
        · refine rn_iconst 42 dX5_habits_41 rfl ic_1 ?_
          refine rn_iload_n 43 dX5_habits_42 rfl rfl ?_
          refine rn_ishl 44 dX5_habits_43 rfl ?_
          refine rn_goto 48 dX5_habits_44 rfl ?_
          exact (ok_some hf :)
theorem T_X5_habits {G : WG} {post : PO} {h : AH} {o : Nat} {x1 : Int32} (hf : OkA (F_X5_habits h o x1) (fun q => post (some q.1) q.2)) : Rn G M_X5_habits (0, 0) 0 [(0, .ref (ad G o)), (1, .int x1)] [] h post := by
  obtain ⟨_, hf⟩ := ok_ck2 hf
  refine rn_aload_n 1 dX5_habits_0 rfl rfl ?_
  refine rn_iload_n 2 dX5_habits_1 rfl rfl ?_
  refine ro_cVp (M' := M_X5_isHen) (As := [.int x1]) (o := o) (st := []) 5 (0, 0) dX5_habits_2 rfl l_X5_166 v_X5_isHen ⟨Nat.le_of_ble_eq_true rfl, Nat.le_of_ble_eq_true rfl⟩ rfl rfl (Nat.le_of_ble_eq_true rfl) (Nat.le_of_ble_eq_true rfl) ⟨rfl, Nat.le_of_ble_eq_true rfl, Nat.le_of_ble_eq_true rfl⟩ hf (fun X z => ok_ck z) rfl (fun X z => T_X5_isHen z) (fun v1 hf => ?_)
  refine ro_if_ne 11 8 dX5_habits_5 rfl rfl hf (fun hf => ?_) (fun hf => ?_)
  · refine rn_aload_n 12 dX5_habits_11 rfl rfl ?_
    refine ro_cVv (M' := M_X5_asTold) (As := []) (o := o) (st := []) 15 (0, 0) dX5_habits_12 rfl l_X5_173 v_X5_asTold ⟨Nat.le_of_ble_eq_true rfl, Nat.le_of_ble_eq_true rfl⟩ rfl rfl (Nat.le_of_ble_eq_true rfl) (Nat.le_of_ble_eq_true rfl) ⟨rfl, Nat.le_of_ble_eq_true rfl, Nat.le_of_ble_eq_true rfl⟩ hf (fun X z => ok_ck z) rfl (fun X z => T_X5_asTold z) (fun h2 hf => ?_)
    refine rn_iconst 16 dX5_habits_15 rfl ic_0 ?_
    refine rn_istore_n (lv' := [(0, .ref (ad G o)), (1, .int x1), (2, .int 0)]) 17 dX5_habits_16 rfl (Nat.le_of_ble_eq_true rfl) rfl ?_
    refine rn_iconst 18 dX5_habits_17 rfl ic_0 ?_
    refine rn_istore_n (lv' := [(0, .ref (ad G o)), (1, .int x1), (2, .int 0), (3, .int 0)]) 19 dX5_habits_18 rfl (Nat.le_of_ble_eq_true rfl) rfl ?_
    refine TL_X5_habits_19 ?_ FU _ _ _ hf
    intro h5 y6 y7 hf
    refine rn_iload_n 57 dX5_habits_56 rfl rfl ?_
    exact rn_iret .int dX5_habits_57 rfl rfl (Or.inl rfl) (ok_some hf :)
  · refine rn_bipush 10 dX5_habits_8 rfl bp_m2 ?_
    exact rn_iret .int dX5_habits_10 rfl rfl (Or.inl rfl) (ok_some hf :)
theorem TL_X4_daysToFirstRight_13 {G : WG} {post : PO} {o0 : Nat} {x1 : Int32} {x2 : Int32} {k : AH → Int32 → Option (Int32 × AH)} (hk : ∀ (h : AH) (x3 : Int32), OkA (k h x3) (fun q => post (some q.1) q.2) → Rn G M_X4_daysToFirstRight (0, 0) 45 [(0, .ref (ad G o0)), (1, .int x1), (2, .int x2), (3, .int x3)] [] h post) : ∀ (n : Nat) (h : AH) (x3 : Int32), OkA (L_X4_daysToFirstRight_13 o0 x1 x2 k n h x3) (fun q => post (some q.1) q.2) → Rn G M_X4_daysToFirstRight (0, 0) 13 [(0, .ref (ad G o0)), (1, .int x1), (2, .int x2), (3, .int x3)] [] h post := by
  intro n
  induction n with
  | zero => intro _ _ hf; exact absurd hf ok_none
  | succ n ih =>
    intro h x3 hf
    refine rn_iload_n 14 dX4_daysToFirstRight_13 rfl rfl ?_
    refine rn_iload_n 15 dX4_daysToFirstRight_14 rfl rfl ?_
    refine ro_icmp_gt 45 18 dX4_daysToFirstRight_15 rfl rfl hf (fun hf => ?_) (fun hf => ?_)
    · exact hk _ _ hf
    · refine rn_aload_n 19 dX4_daysToFirstRight_18 rfl rfl ?_
      refine ro_gtR 22 dX4_daysToFirstRight_19 rfl f_X4_33 ft_4_4 hf (fun r1 hf => ?_)
      refine rn_aload_n 23 dX4_daysToFirstRight_22 rfl rfl ?_
      refine ro_gtR 26 dX4_daysToFirstRight_23 rfl f_X4_19 ft_4_1 hf (fun r2 hf => ?_)
      refine ro_cVv (M' := M_X3_passDay) (As := [.ref (ad G r2)]) (o := r1) (st := []) 29 (0, 0) dX4_daysToFirstRight_26 rfl l_X4_140 v_X3_passDay ⟨Nat.le_of_ble_eq_true rfl, Nat.le_of_ble_eq_true rfl⟩ rfl rfl (Nat.le_of_ble_eq_true rfl) (Nat.le_of_ble_eq_true rfl) ⟨rfl, Nat.le_of_ble_eq_true rfl, Nat.le_of_ble_eq_true rfl⟩ hf (fun X z => ok_ck z) rfl (fun X z => T_X3_passDay z) (fun h3 hf => ?_)
      refine rn_aload_n 30 dX4_daysToFirstRight_29 rfl rfl ?_
      refine rn_iload_n 31 dX4_daysToFirstRight_30 rfl rfl ?_
      refine ro_cVp (M' := M_X4_rightsForetold) (As := [.int x1]) (o := o0) (st := []) 34 (0, 0) dX4_daysToFirstRight_31 rfl l_X4_174 v_X4_rightsForetold ⟨Nat.le_of_ble_eq_true rfl, Nat.le_of_ble_eq_true rfl⟩ rfl rfl (Nat.le_of_ble_eq_true rfl) (Nat.le_of_ble_eq_true rfl) ⟨rfl, Nat.le_of_ble_eq_true rfl, Nat.le_of_ble_eq_true rfl⟩ hf (fun X z => ok_ck z) rfl (fun X z => T_X4_rightsForetold z) (fun v4 hf => ?_)
      refine ro_if_le 39 37 dX4_daysToFirstRight_34 rfl rfl hf (fun hf => ?_) (fun hf => ?_)
      · refine rn_iinc (lv' := [(0, .ref (ad G o0)), (1, .int x1), (2, .int x2), (3, .int (x3 + 1))]) 42 dX4_daysToFirstRight_39 rfl (Nat.le_of_ble_eq_true rfl) rfl (inc_1 _) rfl ?_
        refine rn_goto 13 dX4_daysToFirstRight_42 rfl ?_
        exact ih _ _ hf
      · refine rn_iload_n 38 dX4_daysToFirstRight_37 rfl rfl ?_
        exact rn_iret .int dX4_daysToFirstRight_38 rfl rfl (Or.inl rfl) (ok_some hf :)
theorem T_X4_daysToFirstRight {G : WG} {post : PO} {h : AH} {o : Nat} {x1 : Int32} {x2 : Int32} (hf : OkA (F_X4_daysToFirstRight h o x1 x2) (fun q => post (some q.1) q.2)) : Rn G M_X4_daysToFirstRight (0, 0) 0 [(0, .ref (ad G o)), (1, .int x1), (2, .int x2)] [] h post := by
  obtain ⟨_, hf⟩ := ok_ck2 hf
  refine rn_aload_n 1 dX4_daysToFirstRight_0 rfl rfl ?_
  refine ro_gtR 4 dX4_daysToFirstRight_1 rfl f_X4_33 ft_4_4 hf (fun r1 hf => ?_)
  refine rn_aload_n 5 dX4_daysToFirstRight_4 rfl rfl ?_
  refine ro_gtR 8 dX4_daysToFirstRight_5 rfl f_X4_29 ft_4_3 hf (fun r2 hf => ?_)
  refine ro_cVv (M' := M_X3_copyFrom) (As := [.ref (ad G r2)]) (o := r1) (st := []) 11 (0, 0) dX4_daysToFirstRight_8 rfl l_X4_163 v_X3_copyFrom ⟨Nat.le_of_ble_eq_true rfl, Nat.le_of_ble_eq_true rfl⟩ rfl rfl (Nat.le_of_ble_eq_true rfl) (Nat.le_of_ble_eq_true rfl) ⟨rfl, Nat.le_of_ble_eq_true rfl, Nat.le_of_ble_eq_true rfl⟩ hf (fun X z => ok_ck z) rfl (fun X z => T_X3_copyFrom z) (fun h3 hf => ?_)
  refine rn_iconst 12 dX4_daysToFirstRight_11 rfl ic_1 ?_
  refine rn_istore_n (lv' := [(0, .ref (ad G o)), (1, .int x1), (2, .int x2), (3, .int 1)]) 13 dX4_daysToFirstRight_12 rfl (Nat.le_of_ble_eq_true rfl) rfl ?_
  refine TL_X4_daysToFirstRight_13 ?_ FU _ _ hf
  intro h5 y6 hf
  refine rn_iconst 46 dX4_daysToFirstRight_45 rfl ic_m1 ?_
  exact rn_iret .int dX4_daysToFirstRight_46 rfl rfl (Or.inl rfl) (ok_some hf :)
theorem TL_X4_power_4 {G : WG} {post : PO} {β : Type} {P : β → Prop} {h : AH} {x0 : Int32} {x1 : Int32} {k : Int32 → Int32 → Option (β)} (hk : ∀ (x2 : Int32) (x3 : Int32), OkA (k x2 x3) P → Rn G M_X4_power (0, 0) 19 [(0, .int x0), (1, .int x1), (2, .int x2), (3, .int x3)] [] h post) : ∀ (n : Nat) (x2 : Int32) (x3 : Int32), OkA (L_X4_power_4 h x0 x1 k n x2 x3) P → Rn G M_X4_power (0, 0) 4 [(0, .int x0), (1, .int x1), (2, .int x2), (3, .int x3)] [] h post := by
  intro n
  induction n with
  | zero => intro _ _ hf; exact absurd hf ok_none
  | succ n ih =>
    intro x2 x3 hf
    refine rn_iload_n 5 dX4_power_4 rfl rfl ?_
    refine rn_iload_n 6 dX4_power_5 rfl rfl ?_
    refine ro_icmp_ge 19 9 dX4_power_6 rfl rfl hf (fun hf => ?_) (fun hf => ?_)
    · exact hk _ _ hf
    · refine rn_iload_n 10 dX4_power_9 rfl rfl ?_
      refine rn_iload_n 11 dX4_power_10 rfl rfl ?_
      refine rn_imul 12 dX4_power_11 rfl ?_
      refine rn_istore_n (lv' := [(0, .int x0), (1, .int x1), (2, .int (x2 * x0)), (3, .int x3)]) 13 dX4_power_12 rfl (Nat.le_of_ble_eq_true rfl) rfl ?_
      refine rn_iinc (lv' := [(0, .int x0), (1, .int x1), (2, .int (x2 * x0)), (3, .int (x3 + 1))]) 16 dX4_power_13 rfl (Nat.le_of_ble_eq_true rfl) rfl (inc_1 _) rfl ?_
      refine rn_goto 4 dX4_power_16 rfl ?_
      exact ih _ _ hf
theorem T_X4_power {G : WG} {post : PO} {h : AH} {x0 : Int32} {x1 : Int32} (hf : OkA (F_X4_power h x0 x1) (fun q => post (some q) h)) : Rn G M_X4_power (0, 0) 0 [(0, .int x0), (1, .int x1)] [] h post := by
  refine rn_iconst 1 dX4_power_0 rfl ic_1 ?_
  refine rn_istore_n (lv' := [(0, .int x0), (1, .int x1), (2, .int 1)]) 2 dX4_power_1 rfl (Nat.le_of_ble_eq_true rfl) rfl ?_
  refine rn_iconst 3 dX4_power_2 rfl ic_0 ?_
  refine rn_istore_n (lv' := [(0, .int x0), (1, .int x1), (2, .int 1), (3, .int 0)]) 4 dX4_power_3 rfl (Nat.le_of_ble_eq_true rfl) rfl ?_
  refine TL_X4_power_4 ?_ FU _ _ hf
  intro y1 y2 hf
  refine rn_iload_n 20 dX4_power_19 rfl rfl ?_
  exact rn_iret .int dX4_power_20 rfl rfl (Or.inl rfl) (ok_some hf :)
theorem TL_X4_commonDivisor_7 {G : WG} {post : PO} {β : Type} {P : β → Prop} {h : AH} {x0 : Int32} {x1 : Int32} {k : Int32 → Int32 → Int32 → Option (β)} (hk : ∀ (x2 : Int32) (x3 : Int32) (x4 : Int32), OkA (k x2 x3 x4) P → Rn G M_X4_commonDivisor (0, 0) 34 [(0, .int x0), (1, .int x1), (2, .int x2), (3, .int x3), (4, .int x4)] [] h post) : ∀ (n : Nat) (x2 : Int32) (x3 : Int32) (x4 : Int32), OkA (L_X4_commonDivisor_7 h x0 x1 k n x2 x3 x4) P → Rn G M_X4_commonDivisor (0, 0) 7 [(0, .int x0), (1, .int x1), (2, .int x2), (3, .int x3), (4, .int x4)] [] h post := by
  intro n
  induction n with
  | zero => intro _ _ _ hf; exact absurd hf ok_none
  | succ n ih =>
    intro x2 x3 x4 hf
    refine rn_iload 9 dX4_commonDivisor_7 rfl rfl ?_
    refine rn_bipush 11 dX4_commonDivisor_9 rfl bp_64 ?_
    refine ro_icmp_ge 34 14 dX4_commonDivisor_11 rfl rfl hf (fun hf => ?_) (fun hf => ?_)
    · exact hk _ _ _ hf
    · refine rn_iload_n 15 dX4_commonDivisor_14 rfl rfl ?_
      refine ro_if_le 34 18 dX4_commonDivisor_15 rfl rfl hf (fun hf => ?_) (fun hf => ?_)
      · exact hk _ _ _ hf
      · refine rn_iload_n 19 dX4_commonDivisor_18 rfl rfl ?_
        refine rn_iload_n 20 dX4_commonDivisor_19 rfl rfl ?_
        refine ro_irem 21 dX4_commonDivisor_20 rfl hf (fun v1 hf => ?_)
        refine rn_istore (lv' := [(0, .int x0), (1, .int x1), (2, .int x2), (3, .int x3), (4, .int x4), (5, .int v1)]) 23 dX4_commonDivisor_21 rfl (Nat.le_of_ble_eq_true rfl) rfl ?_
        refine rn_iload_n 24 dX4_commonDivisor_23 rfl rfl ?_
        refine rn_istore_n (lv' := [(0, .int x0), (1, .int x1), (2, .int x3), (3, .int x3), (4, .int x4), (5, .int v1)]) 25 dX4_commonDivisor_24 rfl (Nat.le_of_ble_eq_true rfl) rfl ?_
        refine rn_iload 27 dX4_commonDivisor_25 rfl rfl ?_
        refine rn_istore_n (lv' := [(0, .int x0), (1, .int x1), (2, .int x3), (3, .int v1), (4, .int x4), (5, .int v1)]) 28 dX4_commonDivisor_27 rfl (Nat.le_of_ble_eq_true rfl) rfl ?_
        refine rn_iinc (lv' := [(0, .int x0), (1, .int x1), (2, .int x3), (3, .int v1), (4, .int (x4 + 1)), (5, .int v1)]) 31 dX4_commonDivisor_28 rfl (Nat.le_of_ble_eq_true rfl) rfl (inc_1 _) rfl ?_
        refine rn_goto 7 dX4_commonDivisor_31 rfl ?_
        refine rn_take (lv' := [(0, .int x0), (1, .int x1), (2, .int x3), (3, .int v1), (4, .int (x4 + 1))]) [0, 1, 2, 3, 4] rfl ?_
        exact ih _ _ _ hf
theorem T_X4_commonDivisor {G : WG} {post : PO} {h : AH} {x0 : Int32} {x1 : Int32} (hf : OkA (F_X4_commonDivisor h x0 x1) (fun q => post (some q) h)) : Rn G M_X4_commonDivisor (0, 0) 0 [(0, .int x0), (1, .int x1)] [] h post := by
  refine rn_iload_n 1 dX4_commonDivisor_0 rfl rfl ?_
  refine rn_istore_n (lv' := [(0, .int x0), (1, .int x1), (2, .int x1)]) 2 dX4_commonDivisor_1 rfl (Nat.le_of_ble_eq_true rfl) rfl ?_
  refine rn_iload_n 3 dX4_commonDivisor_2 rfl rfl ?_
  refine rn_istore_n (lv' := [(0, .int x0), (1, .int x1), (2, .int x1), (3, .int x0)]) 4 dX4_commonDivisor_3 rfl (Nat.le_of_ble_eq_true rfl) rfl ?_
  refine rn_iconst 5 dX4_commonDivisor_4 rfl ic_0 ?_
  refine rn_istore (lv' := [(0, .int x0), (1, .int x1), (2, .int x1), (3, .int x0), (4, .int 0)]) 7 dX4_commonDivisor_5 rfl (Nat.le_of_ble_eq_true rfl) rfl ?_
  refine TL_X4_commonDivisor_7 ?_ FU _ _ _ hf
  intro y2 y3 y4 hf
  refine rn_iload_n 35 dX4_commonDivisor_34 rfl rfl ?_
  exact rn_iret .int dX4_commonDivisor_35 rfl rfl (Or.inl rfl) (ok_some hf :)
theorem T_X4_foxes {G : WG} {post : PO} {h : AH} {o : Nat} {x1 : Int32} {x2 : Int32} {x3 : Int32} {x4 : Int32} (hf : OkA (F_X4_foxes h o x1 x2 x3 x4) (fun q => post (some q.1) q.2)) : Rn G M_X4_foxes (0, 0) 0 [(0, .ref (ad G o)), (1, .int x1), (2, .int x2), (3, .int x3), (4, .int x4)] [] h post := by
  obtain ⟨_, hf⟩ := ok_ck2 hf
  refine rn_aload_n 1 dX4_foxes_0 rfl rfl ?_
  refine rn_iload_n 2 dX4_foxes_1 rfl rfl ?_
  refine ro_cVp (M' := M_X4_isHen) (As := [.int x1]) (o := o) (st := []) 5 (0, 0) dX4_foxes_2 rfl l_X4_102 v_X4_isHen ⟨Nat.le_of_ble_eq_true rfl, Nat.le_of_ble_eq_true rfl⟩ rfl rfl (Nat.le_of_ble_eq_true rfl) (Nat.le_of_ble_eq_true rfl) ⟨rfl, Nat.le_of_ble_eq_true rfl, Nat.le_of_ble_eq_true rfl⟩ hf (fun X z => ok_ck z) rfl (fun X z => T_X4_isHen z) (fun v1 hf => ?_)
  refine ro_if_ne 11 8 dX4_foxes_5 rfl rfl hf (fun hf => ?_) (fun hf => ?_)
  · refine rn_iload_n 12 dX4_foxes_11 rfl rfl ?_
    refine ro_if_lt 42 15 dX4_foxes_12 rfl rfl hf (fun hf => ?_) (fun hf => ?_)
    · refine rn_bipush 44 dX4_foxes_42 rfl bp_m3 ?_
      exact rn_iret .int dX4_foxes_44 rfl rfl (Or.inl rfl) (ok_some hf :)
    · refine rn_iload_n 16 dX4_foxes_15 rfl rfl ?_
      refine rn_bipush 18 dX4_foxes_16 rfl bp_6 ?_
      refine ro_icmp_gt 42 21 dX4_foxes_18 rfl rfl hf (fun hf => ?_) (fun hf => ?_)
      · refine rn_bipush 44 dX4_foxes_42 rfl bp_m3 ?_
        exact rn_iret .int dX4_foxes_44 rfl rfl (Or.inl rfl) (ok_some hf :)
      · refine rn_iload_n 22 dX4_foxes_21 rfl rfl ?_
        refine ro_if_lt 42 25 dX4_foxes_22 rfl rfl hf (fun hf => ?_) (fun hf => ?_)
        · refine rn_bipush 44 dX4_foxes_42 rfl bp_m3 ?_
          exact rn_iret .int dX4_foxes_44 rfl rfl (Or.inl rfl) (ok_some hf :)
        · refine rn_iload_n 26 dX4_foxes_25 rfl rfl ?_
          refine rn_bipush 28 dX4_foxes_26 rfl bp_10 ?_
          refine ro_icmp_gt 42 31 dX4_foxes_28 rfl rfl hf (fun hf => ?_) (fun hf => ?_)
          · refine rn_bipush 44 dX4_foxes_42 rfl bp_m3 ?_
            exact rn_iret .int dX4_foxes_44 rfl rfl (Or.inl rfl) (ok_some hf :)
          · refine rn_iload 33 dX4_foxes_31 rfl rfl ?_
            refine ro_if_lt 42 36 dX4_foxes_33 rfl rfl hf (fun hf => ?_) (fun hf => ?_)
            · refine rn_bipush 44 dX4_foxes_42 rfl bp_m3 ?_
              exact rn_iret .int dX4_foxes_44 rfl rfl (Or.inl rfl) (ok_some hf :)
            · refine rn_iload 38 dX4_foxes_36 rfl rfl ?_
              refine rn_iconst 39 dX4_foxes_38 rfl ic_1 ?_
              refine ro_icmp_le 45 42 dX4_foxes_39 rfl rfl hf (fun hf => ?_) (fun hf => ?_)
              · refine rn_aload_n 46 dX4_foxes_45 rfl rfl ?_
                refine rn_iload_n 47 dX4_foxes_46 rfl rfl ?_
                refine rn_iload_n 48 dX4_foxes_47 rfl rfl ?_
                refine ro_cVi (M' := M_X4_daysToFirstRight) (As := [.int x1, .int x2]) (o := o) (st := []) 51 (0, 0) dX4_foxes_48 rfl l_X4_195 v_X4_daysToFirstRight ⟨Nat.le_of_ble_eq_true rfl, Nat.le_of_ble_eq_true rfl⟩ rfl rfl (Nat.le_of_ble_eq_true rfl) (Nat.le_of_ble_eq_true rfl) ⟨rfl, Nat.le_of_ble_eq_true rfl, Nat.le_of_ble_eq_true rfl⟩ hf (fun X z => ok_ck z) rfl (fun X z => T_X4_daysToFirstRight z) (fun q2 hf => ?_)
                refine rn_istore (lv' := [(0, .ref (ad G o)), (1, .int x1), (2, .int x2), (3, .int x3), (4, .int x4), (5, .int q2.1)]) 53 dX4_foxes_51 rfl (Nat.le_of_ble_eq_true rfl) rfl ?_
                refine rn_iload 55 dX4_foxes_53 rfl rfl ?_
                refine rn_iconst 56 dX4_foxes_55 rfl ic_m1 ?_
                refine ro_reg (X := (fun q3 : Int32 => Rn G M_X4_foxes (0, 0) 72 [(0, .ref (ad G o)), (1, .int x1), (2, .int x2), (3, .int x3), (4, .int x4), (5, .int q2.1)] [.int q3] q2.2 post)) hf (fun q3 hf => ?_) (fun hf => ?_)
                · refine rn_istore (lv' := [(0, .ref (ad G o)), (1, .int x1), (2, .int x2), (3, .int x3), (4, .int x4), (5, .int q2.1), (6, .int q3)]) 74 dX4_foxes_72 rfl (Nat.le_of_ble_eq_true rfl) rfl ?_
                  refine rn_iload 76 dX4_foxes_74 rfl rfl ?_
                  refine rn_iconst 77 dX4_foxes_76 rfl ic_m1 ?_
                  refine ro_reg (X := (fun q5 : Int32 => Rn G M_X4_foxes (0, 0) 91 [(0, .ref (ad G o)), (1, .int x1), (2, .int x2), (3, .int x3), (4, .int x4), (5, .int q2.1), (6, .int q3)] [.int q5] q2.2 post)) hf (fun q5 hf => ?_) (fun hf => ?_)
                  · refine rn_istore (lv' := [(0, .ref (ad G o)), (1, .int x1), (2, .int x2), (3, .int x3), (4, .int x4), (5, .int q2.1), (6, .int q3), (7, .int q5)]) 93 dX4_foxes_91 rfl (Nat.le_of_ble_eq_true rfl) rfl ?_
                    refine rn_iconst 94 dX4_foxes_93 rfl ic_1 ?_
                    refine rn_iload 96 dX4_foxes_94 rfl rfl ?_
                    refine rn_iload 98 dX4_foxes_96 rfl rfl ?_
                    refine ro_cSp (M' := M_X4_commonDivisor) (As := [.int q3, .int q5]) (st := [.int 1]) 101 (0, 0) dX4_foxes_98 rfl l_X4_201 v_X4_commonDivisor ⟨Nat.le_of_ble_eq_true rfl, Nat.le_of_ble_eq_true rfl⟩ rfl rfl (Nat.le_of_ble_eq_true rfl) (Nat.le_of_ble_eq_true rfl) ⟨rfl, Nat.le_of_ble_eq_true rfl, Nat.le_of_ble_eq_true rfl⟩ hf (fun X z => T_X4_commonDivisor z) (fun v7 hf => ?_)
                    refine ro_cSp (M' := M_J9_max_7cf53) (As := [.int 1, .int v7]) (st := []) 104 (0, 0) dX4_foxes_101 rfl l_X4_204 v_J9_max_7cf53 ⟨Nat.le_of_ble_eq_true rfl, Nat.le_of_ble_eq_true rfl⟩ rfl rfl (Nat.le_of_ble_eq_true rfl) (Nat.le_of_ble_eq_true rfl) ⟨rfl, Nat.le_of_ble_eq_true rfl, Nat.le_of_ble_eq_true rfl⟩ hf (fun X z => T_J9_max_7cf53 z) (fun v8 hf => ?_)
                    refine rn_istore (lv' := [(0, .ref (ad G o)), (1, .int x1), (2, .int x2), (3, .int x3), (4, .int x4), (5, .int q2.1), (6, .int q3), (7, .int q5), (8, .int v8)]) 106 dX4_foxes_104 rfl (Nat.le_of_ble_eq_true rfl) rfl ?_
                    refine rn_iload 108 dX4_foxes_106 rfl rfl ?_
                    refine ro_if_ne 119 111 dX4_foxes_108 rfl rfl hf (fun hf => ?_) (fun hf => ?_)
                    · refine rn_iload 121 dX4_foxes_119 rfl rfl ?_
                      refine rn_iload 123 dX4_foxes_121 rfl rfl ?_
                      refine ro_idiv 124 dX4_foxes_123 rfl hf (fun v9 hf => ?_)
                      exact rn_iret .int dX4_foxes_124 rfl rfl (Or.inl rfl) (ok_some hf :)
                    · refine rn_iload 113 dX4_foxes_111 rfl rfl ?_
                      refine rn_iload 115 dX4_foxes_113 rfl rfl ?_
                      refine ro_idiv 116 dX4_foxes_115 rfl hf (fun v10 hf => ?_)
                      refine rn_goto 124 dX4_foxes_116 rfl ?_
                      exact rn_iret .int dX4_foxes_124 rfl rfl (Or.inl rfl) (ok_some hf :)
                  · refine ro_icmp_ne 84 80 dX4_foxes_77 rfl rfl hf (fun hf => ?_) (fun hf => ?_)
                    · refine rn_bipush 86 dX4_foxes_84 rfl bp_10 ?_
                      refine rn_iload 88 dX4_foxes_86 rfl rfl ?_
                      refine ro_cSp (M' := M_X4_power) (As := [.int 10, .int q2.1]) (st := []) 91 (0, 0) dX4_foxes_88 rfl l_X4_198 v_X4_power ⟨Nat.le_of_ble_eq_true rfl, Nat.le_of_ble_eq_true rfl⟩ rfl rfl (Nat.le_of_ble_eq_true rfl) (Nat.le_of_ble_eq_true rfl) ⟨rfl, Nat.le_of_ble_eq_true rfl, Nat.le_of_ble_eq_true rfl⟩ hf (fun X z => T_X4_power z) (fun v6 hf => ?_)
                      exact (ok_some hf :)
                    · refine rn_iconst 81 dX4_foxes_80 rfl ic_1 ?_
                      refine rn_goto 91 dX4_foxes_81 rfl ?_
                      exact (ok_some hf :)
                · refine ro_icmp_ne 63 59 dX4_foxes_56 rfl rfl hf (fun hf => ?_) (fun hf => ?_)
                  · refine rn_bipush 65 dX4_foxes_63 rfl bp_10 ?_
                    refine rn_iload_n 66 dX4_foxes_65 rfl rfl ?_
                    refine rn_isub 67 dX4_foxes_66 rfl ?_
                    refine rn_iload 69 dX4_foxes_67 rfl rfl ?_
                    refine ro_cSp (M' := M_X4_power) (As := [.int (10 - x3), .int q2.1]) (st := []) 72 (0, 0) dX4_foxes_69 rfl l_X4_198 v_X4_power ⟨Nat.le_of_ble_eq_true rfl, Nat.le_of_ble_eq_true rfl⟩ rfl rfl (Nat.le_of_ble_eq_true rfl) (Nat.le_of_ble_eq_true rfl) ⟨rfl, Nat.le_of_ble_eq_true rfl, Nat.le_of_ble_eq_true rfl⟩ hf (fun X z => T_X4_power z) (fun v4 hf => ?_)
                    exact (ok_some hf :)
                  · refine rn_iconst 60 dX4_foxes_59 rfl ic_0 ?_
                    refine rn_goto 72 dX4_foxes_60 rfl ?_
                    exact (ok_some hf :)
              · refine rn_bipush 44 dX4_foxes_42 rfl bp_m3 ?_
                exact rn_iret .int dX4_foxes_44 rfl rfl (Or.inl rfl) (ok_some hf :)
  · refine rn_bipush 10 dX4_foxes_8 rfl bp_m2 ?_
    exact rn_iret .int dX4_foxes_10 rfl rfl (Or.inl rfl) (ok_some hf :)
theorem TL_X5_foxes_66 {G : WG} {post : PO} {β : Type} {P : β → Prop} {o0 : Nat} {x1 : Int32} {x2 : Int32} {x3 : Int32} {x4 : Int32} {k : AH → Int64 → Int64 → Int32 → Int32 → Option (β)} (hk : ∀ (h : AH) (x5 : Int64) (x7 : Int64) (x9 : Int32) (x10 : Int32), OkA (k h x5 x7 x9 x10) P → Rn G M_X5_foxes (0, 0) 134 [(0, .ref (ad G o0)), (1, .int x1), (2, .int x2), (3, .int x3), (4, .int x4), (5, .long x5), (7, .long x7), (9, .int x9), (10, .int x10)] [] h post) : ∀ (n : Nat) (h : AH) (x5 : Int64) (x7 : Int64) (x9 : Int32) (x10 : Int32), OkA (L_X5_foxes_66 o0 x1 x2 x3 x4 k n h x5 x7 x9 x10) P → Rn G M_X5_foxes (0, 0) 66 [(0, .ref (ad G o0)), (1, .int x1), (2, .int x2), (3, .int x3), (4, .int x4), (5, .long x5), (7, .long x7), (9, .int x9), (10, .int x10)] [] h post := by
  intro n
  induction n with
  | zero => intro _ _ _ _ _ hf; exact absurd hf ok_none
  | succ n ih =>
    intro h x5 x7 x9 x10 hf
    refine rn_iload 68 dX5_foxes_66 rfl rfl ?_
    refine rn_iload_n 69 dX5_foxes_68 rfl rfl ?_
    refine ro_icmp_ge 134 72 dX5_foxes_69 rfl rfl hf (fun hf => ?_) (fun hf => ?_)
    · exact hk _ _ _ _ _ hf
    · refine rn_iload 74 dX5_foxes_72 rfl rfl ?_
      refine ro_if_ne 134 77 dX5_foxes_74 rfl rfl hf (fun hf => ?_) (fun hf => ?_)
      · exact hk _ _ _ _ _ hf
      · refine rn_aload_n 78 dX5_foxes_77 rfl rfl ?_
        refine rn_iconst 79 dX5_foxes_78 rfl ic_1 ?_
        refine ro_cVv (M' := M_X5_go) (As := [.int 1]) (o := o0) (st := []) 82 (0, 0) dX5_foxes_79 rfl l_X5_197 v_X5_go ⟨Nat.le_of_ble_eq_true rfl, Nat.le_of_ble_eq_true rfl⟩ rfl rfl (Nat.le_of_ble_eq_true rfl) (Nat.le_of_ble_eq_true rfl) ⟨rfl, Nat.le_of_ble_eq_true rfl, Nat.le_of_ble_eq_true rfl⟩ hf (fun X z => ok_ck z) rfl (fun X z => T_X5_go z) (fun h1 hf => ?_)
        refine rn_lload 84 dX5_foxes_82 rfl rfl ?_
        refine rn_bipush 86 dX5_foxes_84 rfl bp_10 ?_
        refine rn_iload_n 87 dX5_foxes_86 rfl rfl ?_
        refine rn_isub 88 dX5_foxes_87 rfl ?_
        refine rn_i2l 89 dX5_foxes_88 rfl ?_
        refine rn_lmul 90 dX5_foxes_89 rfl ?_
        refine rn_lstore (lv' := [(0, .ref (ad G o0)), (1, .int x1), (2, .int x2), (3, .int x3), (4, .int x4), (5, .long (x5 * (Int32.toInt64 (10 - x3)))), (7, .long x7), (9, .int x9), (10, .int x10)]) 92 dX5_foxes_90 rfl (Nat.le_of_ble_eq_true rfl) rfl ?_
        refine rn_lload 94 dX5_foxes_92 rfl rfl ?_
        refine rn_ldc2 97 dX5_foxes_94 rfl k_X5_213 ?_
        refine rn_lmul 98 dX5_foxes_97 rfl ?_
        refine rn_lstore (lv' := [(0, .ref (ad G o0)), (1, .int x1), (2, .int x2), (3, .int x3), (4, .int x4), (5, .long (x5 * (Int32.toInt64 (10 - x3)))), (7, .long (x7 * 10)), (9, .int x9), (10, .int x10)]) 100 dX5_foxes_98 rfl (Nat.le_of_ble_eq_true rfl) rfl ?_
        refine rn_aload_n 101 dX5_foxes_100 rfl rfl ?_
        refine ro_gtR 104 dX5_foxes_101 rfl f_X5_44 ft_5_20 hf (fun r2 hf => ?_)
        refine rn_bipush 106 dX5_foxes_104 rfl bp_39 ?_
        refine rn_iload_n 107 dX5_foxes_106 rfl rfl ?_
        refine rn_iadd 108 dX5_foxes_107 rfl ?_
        refine ro_iaload 109 dX5_foxes_108 rfl hf (fun v3 hf => ?_)
        refine rn_aload_n 110 dX5_foxes_109 rfl rfl ?_
        refine ro_gtR 113 dX5_foxes_110 rfl f_X5_16 ft_5_2 hf (fun r4 hf => ?_)
        refine rn_bipush 115 dX5_foxes_113 rfl bp_39 ?_
        refine rn_iload_n 116 dX5_foxes_115 rfl rfl ?_
        refine rn_iadd 117 dX5_foxes_116 rfl ?_
        refine ro_iaload 118 dX5_foxes_117 rfl hf (fun v5 hf => ?_)
        refine ro_reg (X := (fun q6 : Int32 => Rn G M_X5_foxes (0, 0) 126 [(0, .ref (ad G o0)), (1, .int x1), (2, .int x2), (3, .int x3), (4, .int x4), (5, .long (x5 * (Int32.toInt64 (10 - x3)))), (7, .long (x7 * 10)), (9, .int x9), (10, .int x10)] [.int q6] h1 post)) hf (fun q6 hf => ?_) (fun hf => ?_)
        · refine rn_istore (lv' := [(0, .ref (ad G o0)), (1, .int x1), (2, .int x2), (3, .int x3), (4, .int x4), (5, .long (x5 * (Int32.toInt64 (10 - x3)))), (7, .long (x7 * 10)), (9, .int q6), (10, .int x10)]) 128 dX5_foxes_126 rfl (Nat.le_of_ble_eq_true rfl) rfl ?_
          refine rn_iinc (lv' := [(0, .ref (ad G o0)), (1, .int x1), (2, .int x2), (3, .int x3), (4, .int x4), (5, .long (x5 * (Int32.toInt64 (10 - x3)))), (7, .long (x7 * 10)), (9, .int q6), (10, .int (x10 + 1))]) 131 dX5_foxes_128 rfl (Nat.le_of_ble_eq_true rfl) rfl (inc_1 _) rfl ?_
          refine rn_goto 66 dX5_foxes_131 rfl ?_
          exact ih _ _ _ _ _ hf
        · refine ro_icmp_le 125 121 dX5_foxes_118 rfl rfl hf (fun hf => ?_) (fun hf => ?_)
          · refine rn_iconst 126 dX5_foxes_125 rfl ic_0 ?_
            exact (ok_some hf :)
          · refine rn_iconst 122 dX5_foxes_121 rfl ic_1 ?_
            refine rn_goto 126 dX5_foxes_122 rfl ?_
            exact (ok_some hf :)
theorem TL_X5_foxes_155 {G : WG} {post : PO} {β : Type} {P : β → Prop} {h : AH} {o0 : Nat} {x1 : Int32} {x2 : Int32} {x3 : Int32} {x4 : Int32} {x5 : Int64} {x7 : Int64} {x9 : Int32} {k : Int64 → Int64 → Option (β)} (hk : ∀ (x10 : Int64) (x12 : Int64), OkA (k x10 x12) P → Rn G M_X5_foxes (0, 0) 180 [(0, .ref (ad G o0)), (1, .int x1), (2, .int x2), (3, .int x3), (4, .int x4), (5, .long x5), (7, .long x7), (9, .int x9), (10, .long x10), (12, .long x12)] [] h post) : ∀ (n : Nat) (x10 : Int64) (x12 : Int64), OkA (L_X5_foxes_155 h o0 x1 x2 x3 x4 x5 x7 x9 k n x10 x12) P → Rn G M_X5_foxes (0, 0) 155 [(0, .ref (ad G o0)), (1, .int x1), (2, .int x2), (3, .int x3), (4, .int x4), (5, .long x5), (7, .long x7), (9, .int x9), (10, .long x10), (12, .long x12)] [] h post := by
  intro n
  induction n with
  | zero => intro _ _ hf; exact absurd hf ok_none
  | succ n ih =>
    intro x10 x12 hf
    refine rn_lload 157 dX5_foxes_155 rfl rfl ?_
    refine rn_lconst 158 dX5_foxes_157 rfl lc_0 ?_
    refine rn_lcmp 159 dX5_foxes_158 rfl ?_
    refine ro_if_eq 180 162 dX5_foxes_159 rfl rfl hf (fun hf => ?_) (fun hf => ?_)
    · exact hk _ _ hf
    · refine rn_lload 164 dX5_foxes_162 rfl rfl ?_
      refine rn_lload 166 dX5_foxes_164 rfl rfl ?_
      refine ro_lrem 167 dX5_foxes_166 rfl hf (fun v1 hf => ?_)
      refine rn_lstore (lv' := [(0, .ref (ad G o0)), (1, .int x1), (2, .int x2), (3, .int x3), (4, .int x4), (5, .long x5), (7, .long x7), (9, .int x9), (10, .long x10), (12, .long x12), (14, .long v1)]) 169 dX5_foxes_167 rfl (Nat.le_of_ble_eq_true rfl) rfl ?_
      refine rn_lload 171 dX5_foxes_169 rfl rfl ?_
      refine rn_lstore (lv' := [(0, .ref (ad G o0)), (1, .int x1), (2, .int x2), (3, .int x3), (4, .int x4), (5, .long x5), (7, .long x7), (9, .int x9), (10, .long x12), (12, .long x12), (14, .long v1)]) 173 dX5_foxes_171 rfl (Nat.le_of_ble_eq_true rfl) rfl ?_
      refine rn_lload 175 dX5_foxes_173 rfl rfl ?_
      refine rn_lstore (lv' := [(0, .ref (ad G o0)), (1, .int x1), (2, .int x2), (3, .int x3), (4, .int x4), (5, .long x5), (7, .long x7), (9, .int x9), (10, .long x12), (12, .long v1), (14, .long v1)]) 177 dX5_foxes_175 rfl (Nat.le_of_ble_eq_true rfl) rfl ?_
      refine rn_goto 155 dX5_foxes_177 rfl ?_
      refine rn_take (lv' := [(0, .ref (ad G o0)), (1, .int x1), (2, .int x2), (3, .int x3), (4, .int x4), (5, .long x5), (7, .long x7), (9, .int x9), (10, .long x12), (12, .long v1)]) [0, 1, 2, 3, 4, 5, 6, 7, 8, 9] rfl ?_
      exact ih _ _ hf
theorem T_X5_foxes {G : WG} {post : PO} {h : AH} {o : Nat} {x1 : Int32} {x2 : Int32} {x3 : Int32} {x4 : Int32} (hf : OkA (F_X5_foxes h o x1 x2 x3 x4) (fun q => post (some q.1) q.2)) : Rn G M_X5_foxes (0, 0) 0 [(0, .ref (ad G o)), (1, .int x1), (2, .int x2), (3, .int x3), (4, .int x4)] [] h post := by
  obtain ⟨_, hf⟩ := ok_ck2 hf
  refine rn_aload_n 1 dX5_foxes_0 rfl rfl ?_
  refine rn_iload_n 2 dX5_foxes_1 rfl rfl ?_
  refine ro_cVp (M' := M_X5_isHen) (As := [.int x1]) (o := o) (st := []) 5 (0, 0) dX5_foxes_2 rfl l_X5_166 v_X5_isHen ⟨Nat.le_of_ble_eq_true rfl, Nat.le_of_ble_eq_true rfl⟩ rfl rfl (Nat.le_of_ble_eq_true rfl) (Nat.le_of_ble_eq_true rfl) ⟨rfl, Nat.le_of_ble_eq_true rfl, Nat.le_of_ble_eq_true rfl⟩ hf (fun X z => ok_ck z) rfl (fun X z => T_X5_isHen z) (fun v1 hf => ?_)
  refine ro_if_ne 11 8 dX5_foxes_5 rfl rfl hf (fun hf => ?_) (fun hf => ?_)
  · refine rn_iload_n 12 dX5_foxes_11 rfl rfl ?_
    refine rn_i2l 13 dX5_foxes_12 rfl ?_
    refine rn_lconst 14 dX5_foxes_13 rfl lc_0 ?_
    refine rn_ldc2 17 dX5_foxes_14 rfl k_X5_211 ?_
    refine ro_cSp (M' := M_X5_in) (As := [.long x2.toInt64, .long 0, .long 6]) (st := []) 20 (0, 0) dX5_foxes_17 rfl l_X5_63 v_X5_in ⟨Nat.le_of_ble_eq_true rfl, Nat.le_of_ble_eq_true rfl⟩ rfl rfl (Nat.le_of_ble_eq_true rfl) (Nat.le_of_ble_eq_true rfl) ⟨rfl, Nat.le_of_ble_eq_true rfl, Nat.le_of_ble_eq_true rfl⟩ hf (fun X z => T_X5_in z) (fun v2 hf => ?_)
    refine ro_if_eq 43 23 dX5_foxes_20 rfl rfl hf (fun hf => ?_) (fun hf => ?_)
    · refine rn_bipush 45 dX5_foxes_43 rfl bp_m3 ?_
      exact rn_iret .int dX5_foxes_45 rfl rfl (Or.inl rfl) (ok_some hf :)
    · refine rn_iload_n 24 dX5_foxes_23 rfl rfl ?_
      refine rn_i2l 25 dX5_foxes_24 rfl ?_
      refine rn_lconst 26 dX5_foxes_25 rfl lc_0 ?_
      refine rn_ldc2 29 dX5_foxes_26 rfl k_X5_213 ?_
      refine ro_cSp (M' := M_X5_in) (As := [.long x3.toInt64, .long 0, .long 10]) (st := []) 32 (0, 0) dX5_foxes_29 rfl l_X5_63 v_X5_in ⟨Nat.le_of_ble_eq_true rfl, Nat.le_of_ble_eq_true rfl⟩ rfl rfl (Nat.le_of_ble_eq_true rfl) (Nat.le_of_ble_eq_true rfl) ⟨rfl, Nat.le_of_ble_eq_true rfl, Nat.le_of_ble_eq_true rfl⟩ hf (fun X z => T_X5_in z) (fun v3 hf => ?_)
      refine ro_if_eq 43 35 dX5_foxes_32 rfl rfl hf (fun hf => ?_) (fun hf => ?_)
      · refine rn_bipush 45 dX5_foxes_43 rfl bp_m3 ?_
        exact rn_iret .int dX5_foxes_45 rfl rfl (Or.inl rfl) (ok_some hf :)
      · refine rn_iload 37 dX5_foxes_35 rfl rfl ?_
        refine ro_cSp (M' := M_X5_isTwo) (As := [.int x4]) (st := []) 40 (0, 0) dX5_foxes_37 rfl l_X5_189 v_X5_isTwo ⟨Nat.le_of_ble_eq_true rfl, Nat.le_of_ble_eq_true rfl⟩ rfl rfl (Nat.le_of_ble_eq_true rfl) (Nat.le_of_ble_eq_true rfl) ⟨rfl, Nat.le_of_ble_eq_true rfl, Nat.le_of_ble_eq_true rfl⟩ hf (fun X z => T_X5_isTwo z) (fun v4 hf => ?_)
        refine ro_if_ne 46 43 dX5_foxes_40 rfl rfl hf (fun hf => ?_) (fun hf => ?_)
        · refine rn_aload_n 47 dX5_foxes_46 rfl rfl ?_
          refine ro_cVv (M' := M_X5_asTold) (As := []) (o := o) (st := []) 50 (0, 0) dX5_foxes_47 rfl l_X5_173 v_X5_asTold ⟨Nat.le_of_ble_eq_true rfl, Nat.le_of_ble_eq_true rfl⟩ rfl rfl (Nat.le_of_ble_eq_true rfl) (Nat.le_of_ble_eq_true rfl) ⟨rfl, Nat.le_of_ble_eq_true rfl, Nat.le_of_ble_eq_true rfl⟩ hf (fun X z => ok_ck z) rfl (fun X z => T_X5_asTold z) (fun h5 hf => ?_)
          refine rn_aload_n 51 dX5_foxes_50 rfl rfl ?_
          refine ro_cVv (M' := M_X5_layAside) (As := []) (o := o) (st := []) 54 (0, 0) dX5_foxes_51 rfl l_X5_194 v_X5_layAside ⟨Nat.le_of_ble_eq_true rfl, Nat.le_of_ble_eq_true rfl⟩ rfl rfl (Nat.le_of_ble_eq_true rfl) (Nat.le_of_ble_eq_true rfl) ⟨rfl, Nat.le_of_ble_eq_true rfl, Nat.le_of_ble_eq_true rfl⟩ hf (fun X z => ok_ck z) rfl (fun X z => T_X5_layAside z) (fun h6 hf => ?_)
          refine rn_lconst 55 dX5_foxes_54 rfl lc_1 ?_
          refine rn_lstore (lv' := [(0, .ref (ad G o)), (1, .int x1), (2, .int x2), (3, .int x3), (4, .int x4), (5, .long 1)]) 57 dX5_foxes_55 rfl (Nat.le_of_ble_eq_true rfl) rfl ?_
          refine rn_lconst 58 dX5_foxes_57 rfl lc_1 ?_
          refine rn_lstore (lv' := [(0, .ref (ad G o)), (1, .int x1), (2, .int x2), (3, .int x3), (4, .int x4), (5, .long 1), (7, .long 1)]) 60 dX5_foxes_58 rfl (Nat.le_of_ble_eq_true rfl) rfl ?_
          refine rn_iconst 61 dX5_foxes_60 rfl ic_0 ?_
          refine rn_istore (lv' := [(0, .ref (ad G o)), (1, .int x1), (2, .int x2), (3, .int x3), (4, .int x4), (5, .long 1), (7, .long 1), (9, .int 0)]) 63 dX5_foxes_61 rfl (Nat.le_of_ble_eq_true rfl) rfl ?_
          refine rn_iconst 64 dX5_foxes_63 rfl ic_0 ?_
          refine rn_istore (lv' := [(0, .ref (ad G o)), (1, .int x1), (2, .int x2), (3, .int x3), (4, .int x4), (5, .long 1), (7, .long 1), (9, .int 0), (10, .int 0)]) 66 dX5_foxes_64 rfl (Nat.le_of_ble_eq_true rfl) rfl ?_
          refine TL_X5_foxes_66 ?_ FU _ _ _ _ _ hf
          intro h7 y8 y9 y10 y11 hf
          refine rn_iload 136 dX5_foxes_134 rfl rfl ?_
          refine ro_reg (X := (fun q12 : Int64 => Rn G M_X5_foxes (0, 0) 145 [(0, .ref (ad G o)), (1, .int x1), (2, .int x2), (3, .int x3), (4, .int x4), (5, .long y8), (7, .long y9), (9, .int y10), (10, .int y11)] [.long q12] h7 post)) hf (fun q12 hf => ?_) (fun hf => ?_)
          · refine rn_lstore (lv' := [(0, .ref (ad G o)), (1, .int x1), (2, .int x2), (3, .int x3), (4, .int x4), (5, .long q12), (7, .long y9), (9, .int y10), (10, .int y11)]) 147 dX5_foxes_145 rfl (Nat.le_of_ble_eq_true rfl) rfl ?_
            refine rn_lload 149 dX5_foxes_147 rfl rfl ?_
            refine rn_lstore (lv' := [(0, .ref (ad G o)), (1, .int x1), (2, .int x2), (3, .int x3), (4, .int x4), (5, .long q12), (7, .long y9), (9, .int y10), (10, .long q12)]) 151 dX5_foxes_149 rfl (Nat.le_of_ble_eq_true rfl) rfl ?_
            refine rn_lload 153 dX5_foxes_151 rfl rfl ?_
            refine rn_lstore (lv' := [(0, .ref (ad G o)), (1, .int x1), (2, .int x2), (3, .int x3), (4, .int x4), (5, .long q12), (7, .long y9), (9, .int y10), (10, .long q12), (12, .long y9)]) 155 dX5_foxes_153 rfl (Nat.le_of_ble_eq_true rfl) rfl ?_
            refine TL_X5_foxes_155 ?_ FU _ _ hf
            intro y13 y14 hf
            refine rn_iload 182 dX5_foxes_180 rfl rfl ?_
            refine ro_if_ne 193 185 dX5_foxes_182 rfl rfl hf (fun hf => ?_) (fun hf => ?_)
            · refine rn_lload 195 dX5_foxes_193 rfl rfl ?_
              refine rn_lload 197 dX5_foxes_195 rfl rfl ?_
              refine ro_ldiv 198 dX5_foxes_197 rfl hf (fun v15 hf => ?_)
              refine rn_l2i 199 dX5_foxes_198 rfl ?_
              exact rn_iret .int dX5_foxes_199 rfl rfl (Or.inl rfl) (ok_some hf :)
            · refine rn_lload 187 dX5_foxes_185 rfl rfl ?_
              refine rn_lload 189 dX5_foxes_187 rfl rfl ?_
              refine ro_ldiv 190 dX5_foxes_189 rfl hf (fun v16 hf => ?_)
              refine rn_goto 198 dX5_foxes_190 rfl ?_
              refine rn_l2i 199 dX5_foxes_198 rfl ?_
              exact rn_iret .int dX5_foxes_199 rfl rfl (Or.inl rfl) (ok_some hf :)
          · refine ro_if_eq 144 139 dX5_foxes_136 rfl rfl hf (fun hf => ?_) (fun hf => ?_)
            · refine rn_lconst 145 dX5_foxes_144 rfl lc_0 ?_
              exact (ok_some hf :)
            · refine rn_lload 141 dX5_foxes_139 rfl rfl ?_
              refine rn_goto 145 dX5_foxes_141 rfl ?_
              exact (ok_some hf :)
        · refine rn_bipush 45 dX5_foxes_43 rfl bp_m3 ?_
          exact rn_iret .int dX5_foxes_45 rfl rfl (Or.inl rfl) (ok_some hf :)
  · refine rn_bipush 10 dX5_foxes_8 rfl bp_m2 ?_
    exact rn_iret .int dX5_foxes_10 rfl rfl (Or.inl rfl) (ok_some hf :)
theorem TL_X4_sum_4 {G : WG} {post : PO} {β : Type} {P : β → Prop} {h : AH} {o0 : Nat} {k : Int32 → Int32 → Option (β)} (hk : ∀ (x1 : Int32) (x2 : Int32), OkA (k x1 x2) P → Rn G M_X4_sum (0, 0) 22 [(0, .ref (ad G o0)), (1, .int x1), (2, .int x2)] [] h post) : ∀ (n : Nat) (x1 : Int32) (x2 : Int32), OkA (L_X4_sum_4 h o0 k n x1 x2) P → Rn G M_X4_sum (0, 0) 4 [(0, .ref (ad G o0)), (1, .int x1), (2, .int x2)] [] h post := by
  intro n
  induction n with
  | zero => intro _ _ hf; exact absurd hf ok_none
  | succ n ih =>
    intro x1 x2 hf
    refine rn_iload_n 5 dX4_sum_4 rfl rfl ?_
    refine rn_aload_n 6 dX4_sum_5 rfl rfl ?_
    refine ro_arraylength 7 dX4_sum_6 rfl hf (fun v1 hf => ?_)
    refine ro_icmp_ge 22 10 dX4_sum_7 rfl rfl hf (fun hf => ?_) (fun hf => ?_)
    · exact hk _ _ hf
    · refine rn_iload_n 11 dX4_sum_10 rfl rfl ?_
      refine rn_aload_n 12 dX4_sum_11 rfl rfl ?_
      refine rn_iload_n 13 dX4_sum_12 rfl rfl ?_
      refine ro_iaload 14 dX4_sum_13 rfl hf (fun v2 hf => ?_)
      refine rn_iadd 15 dX4_sum_14 rfl ?_
      refine rn_istore_n (lv' := [(0, .ref (ad G o0)), (1, .int (x1 + v2)), (2, .int x2)]) 16 dX4_sum_15 rfl (Nat.le_of_ble_eq_true rfl) rfl ?_
      refine rn_iinc (lv' := [(0, .ref (ad G o0)), (1, .int (x1 + v2)), (2, .int (x2 + 1))]) 19 dX4_sum_16 rfl (Nat.le_of_ble_eq_true rfl) rfl (inc_1 _) rfl ?_
      refine rn_goto 4 dX4_sum_19 rfl ?_
      exact ih _ _ hf
theorem T_X4_sum {G : WG} {post : PO} {h : AH} {o0 : Nat} (hf : OkA (F_X4_sum h o0) (fun q => post (some q) h)) : Rn G M_X4_sum (0, 0) 0 [(0, .ref (ad G o0))] [] h post := by
  refine rn_iconst 1 dX4_sum_0 rfl ic_0 ?_
  refine rn_istore_n (lv' := [(0, .ref (ad G o0)), (1, .int 0)]) 2 dX4_sum_1 rfl (Nat.le_of_ble_eq_true rfl) rfl ?_
  refine rn_iconst 3 dX4_sum_2 rfl ic_0 ?_
  refine rn_istore_n (lv' := [(0, .ref (ad G o0)), (1, .int 0), (2, .int 0)]) 4 dX4_sum_3 rfl (Nat.le_of_ble_eq_true rfl) rfl ?_
  refine TL_X4_sum_4 ?_ FU _ _ hf
  intro y3 y4 hf
  refine rn_iload_n 23 dX4_sum_22 rfl rfl ?_
  exact rn_iret .int dX4_sum_23 rfl rfl (Or.inl rfl) (ok_some hf :)
