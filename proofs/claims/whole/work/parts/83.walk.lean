theorem T_X5_as {G : WG} {post : PO} {h : AH} {o : Nat} {x1 : Int32} {x2 : Int32} (hf : OkA (F_X5_as h o x1 x2) (fun q => post (some q.1) q.2)) : Rn G M_X5_as (0, 0) 0 [(0, .ref (ad G o)), (1, .int x1), (2, .int x2)] [] h post := by
  obtain ⟨_, hf⟩ := ok_ck2 hf
  refine rn_aload_n 1 dX5_as_0 rfl rfl ?_
  refine rn_iload_n 2 dX5_as_1 rfl rfl ?_
  refine ro_cVp (M' := M_X5_isHen) (As := [.int x1]) (o := o) (st := []) 5 (0, 0) dX5_as_2 rfl l_X5_166 v_X5_isHen ⟨Nat.le_of_ble_eq_true rfl, Nat.le_of_ble_eq_true rfl⟩ rfl rfl (Nat.le_of_ble_eq_true rfl) (Nat.le_of_ble_eq_true rfl) ⟨rfl, Nat.le_of_ble_eq_true rfl, Nat.le_of_ble_eq_true rfl⟩ hf (fun X z => ok_ck z) rfl (fun X z => T_X5_isHen z) (fun v1 hf => ?_)
  refine ro_if_ne 11 8 dX5_as_5 rfl rfl hf (fun hf => ?_) (fun hf => ?_)
  · refine rn_iload_n 12 dX5_as_11 rfl rfl ?_
    refine rn_i2l 13 dX5_as_12 rfl ?_
    refine rn_lconst 14 dX5_as_13 rfl lc_0 ?_
    refine rn_ldc2 17 dX5_as_14 rfl k_X5_171 ?_
    refine ro_cSp (M' := M_X5_in) (As := [.long x2.toInt64, .long 0, .long 4]) (st := []) 20 (0, 0) dX5_as_17 rfl l_X5_63 v_X5_in ⟨Nat.le_of_ble_eq_true rfl, Nat.le_of_ble_eq_true rfl⟩ rfl rfl (Nat.le_of_ble_eq_true rfl) (Nat.le_of_ble_eq_true rfl) ⟨rfl, Nat.le_of_ble_eq_true rfl, Nat.le_of_ble_eq_true rfl⟩ hf (fun X z => T_X5_in z) (fun v2 hf => ?_)
    refine ro_if_ne 26 23 dX5_as_20 rfl rfl hf (fun hf => ?_) (fun hf => ?_)
    · refine rn_aload_n 27 dX5_as_26 rfl rfl ?_
      refine ro_gtR 30 dX5_as_27 rfl f_X5_7 ft_5_0 hf (fun r3 hf => ?_)
      refine rn_bipush 32 dX5_as_30 rfl bp_26 ?_
      refine rn_iload_n 33 dX5_as_32 rfl rfl ?_
      refine rn_iadd 34 dX5_as_33 rfl ?_
      refine ro_iaload 35 dX5_as_34 rfl hf (fun v4 hf => ?_)
      refine rn_istore_n (lv' := [(0, .ref (ad G o)), (1, .int x1), (2, .int x2), (3, .int v4)]) 36 dX5_as_35 rfl (Nat.le_of_ble_eq_true rfl) rfl ?_
      refine rn_iload_n 37 dX5_as_36 rfl rfl ?_
      refine ro_reg (X := (fun q5 : Int32 => Rn G M_X5_as (0, 0) 62 [(0, .ref (ad G o)), (1, .int x1), (2, .int x2), (3, .int v4)] [.int q5] h post)) hf (fun q5 hf => ?_) (fun hf => ?_)
      · refine rn_istore (lv' := [(0, .ref (ad G o)), (1, .int x1), (2, .int x2), (3, .int v4), (4, .int q5)]) 64 dX5_as_62 rfl (Nat.le_of_ble_eq_true rfl) rfl ?_
        refine rn_iload 66 dX5_as_64 rfl rfl ?_
        refine ro_if_eq 78 69 dX5_as_66 rfl rfl hf (fun hf => ?_) (fun hf => ?_)
        · refine rn_bipush 80 dX5_as_78 rfl bp_m4 ?_
          exact rn_iret .int dX5_as_80 rfl rfl (Or.inl rfl) (ok_some hf :)
        · refine rn_aload_n 70 dX5_as_69 rfl rfl ?_
          refine ro_gtR 73 dX5_as_70 rfl f_X5_7 ft_5_0 hf (fun r6 hf => ?_)
          refine rn_iconst 74 dX5_as_73 rfl ic_0 ?_
          refine ro_iaload 75 dX5_as_74 rfl hf (fun v7 hf => ?_)
          refine ro_if_ne 81 78 dX5_as_75 rfl rfl hf (fun hf => ?_) (fun hf => ?_)
          · refine rn_aload_n 82 dX5_as_81 rfl rfl ?_
            refine ro_cVv (M' := M_X5_asTold) (As := []) (o := o) (st := []) 85 (0, 0) dX5_as_82 rfl l_X5_173 v_X5_asTold ⟨Nat.le_of_ble_eq_true rfl, Nat.le_of_ble_eq_true rfl⟩ rfl rfl (Nat.le_of_ble_eq_true rfl) (Nat.le_of_ble_eq_true rfl) ⟨rfl, Nat.le_of_ble_eq_true rfl, Nat.le_of_ble_eq_true rfl⟩ hf (fun X z => ok_ck z) rfl (fun X z => T_X5_asTold z) (fun h8 hf => ?_)
            refine rn_aload_n 86 dX5_as_85 rfl rfl ?_
            refine rn_aload_n 87 dX5_as_86 rfl rfl ?_
            refine ro_gtR 90 dX5_as_87 rfl f_X5_16 ft_5_2 hf (fun r9 hf => ?_)
            refine rn_iload_n 91 dX5_as_90 rfl rfl ?_
            refine rn_iconst 92 dX5_as_91 rfl ic_0 ?_
            refine ro_cVp (M' := M_X5_likes) (As := [.ref (ad G r9), .int x1, .int 0]) (o := o) (st := []) 95 (0, 0) dX5_as_92 rfl l_X5_155 v_X5_likes ⟨Nat.le_of_ble_eq_true rfl, Nat.le_of_ble_eq_true rfl⟩ rfl rfl (Nat.le_of_ble_eq_true rfl) (Nat.le_of_ble_eq_true rfl) ⟨rfl, Nat.le_of_ble_eq_true rfl, Nat.le_of_ble_eq_true rfl⟩ hf (fun X z => ok_ck z) rfl (fun X z => T_X5_likes z) (fun v10 hf => ?_)
            refine rn_sipush 98 dX5_as_95 rfl sp_9999 ?_
            refine rn_iadd 99 dX5_as_98 rfl ?_
            exact rn_iret .int dX5_as_99 rfl rfl (Or.inl rfl) (ok_some hf :)
          · refine rn_bipush 80 dX5_as_78 rfl bp_m4 ?_
            exact rn_iret .int dX5_as_80 rfl rfl (Or.inl rfl) (ok_some hf :)
      · refine ro_if_eq 57 40 dX5_as_37 rfl rfl hf (fun hf => ?_) (fun hf => ?_)
        · refine rn_iconst 58 dX5_as_57 rfl ic_1 ?_
          refine rn_goto 62 dX5_as_58 rfl ?_
          exact (ok_some hf :)
        · refine rn_iload_n 41 dX5_as_40 rfl rfl ?_
          refine rn_iload_n 42 dX5_as_41 rfl rfl ?_
          refine rn_iconst 43 dX5_as_42 rfl ic_1 ?_
          refine rn_iadd 44 dX5_as_43 rfl ?_
          refine ro_icmp_eq 57 47 dX5_as_44 rfl rfl hf (fun hf => ?_) (fun hf => ?_)
          · refine rn_iconst 58 dX5_as_57 rfl ic_1 ?_
            refine rn_goto 62 dX5_as_58 rfl ?_
            exact (ok_some hf :)
          · refine rn_iload_n 48 dX5_as_47 rfl rfl ?_
            refine rn_iconst 49 dX5_as_48 rfl ic_1 ?_
            refine ro_icmp_ne 61 52 dX5_as_49 rfl rfl hf (fun hf => ?_) (fun hf => ?_)
            · refine rn_iconst 62 dX5_as_61 rfl ic_0 ?_
              exact (ok_some hf :)
            · refine rn_iload_n 53 dX5_as_52 rfl rfl ?_
              refine rn_iconst 54 dX5_as_53 rfl ic_3 ?_
              refine ro_icmp_ge 61 57 dX5_as_54 rfl rfl hf (fun hf => ?_) (fun hf => ?_)
              · refine rn_iconst 62 dX5_as_61 rfl ic_0 ?_
                exact (ok_some hf :)
              · refine rn_iconst 58 dX5_as_57 rfl ic_1 ?_
                refine rn_goto 62 dX5_as_58 rfl ?_
                exact (ok_some hf :)
    · refine rn_bipush 25 dX5_as_23 rfl bp_m3 ?_
      exact rn_iret .int dX5_as_25 rfl rfl (Or.inl rfl) (ok_some hf :)
  · refine rn_bipush 10 dX5_as_8 rfl bp_m2 ?_
    exact rn_iret .int dX5_as_10 rfl rfl (Or.inl rfl) (ok_some hf :)
theorem TL_X4_dropOldest_9 {G : WG} {post : PO} {β : Type} {P : β → Prop} {o0 : Nat} {o1 : Nat} {k : AH → Int32 → Option (β)} (hk : ∀ (h : AH) (x2 : Int32), OkA (k h x2) P → Rn G M_X4_dropOldest (0, 0) 35 [(0, .ref (ad G o0)), (1, .ref (ad G o1)), (2, .int x2)] [] h post) : ∀ (n : Nat) (h : AH) (x2 : Int32), OkA (L_X4_dropOldest_9 o0 o1 k n h x2) P → Rn G M_X4_dropOldest (0, 0) 9 [(0, .ref (ad G o0)), (1, .ref (ad G o1)), (2, .int x2)] [] h post := by
  intro n
  induction n with
  | zero => intro _ _ hf; exact absurd hf ok_none
  | succ n ih =>
    intro h x2 hf
    refine rn_iload_n 10 dX4_dropOldest_9 rfl rfl ?_
    refine rn_bipush 12 dX4_dropOldest_10 rfl bp_8 ?_
    refine ro_icmp_ge 35 15 dX4_dropOldest_12 rfl rfl hf (fun hf => ?_) (fun hf => ?_)
    · exact hk _ _ hf
    · refine rn_aload_n 16 dX4_dropOldest_15 rfl rfl ?_
      refine ro_gtR 19 dX4_dropOldest_16 rfl f_X4_36 ft_4_5 hf (fun r1 hf => ?_)
      refine rn_iload_n 20 dX4_dropOldest_19 rfl rfl ?_
      refine rn_iconst 21 dX4_dropOldest_20 rfl ic_1 ?_
      refine rn_isub 22 dX4_dropOldest_21 rfl ?_
      refine rn_aload_n 23 dX4_dropOldest_22 rfl rfl ?_
      refine ro_gtR 26 dX4_dropOldest_23 rfl f_X4_36 ft_4_5 hf (fun r2 hf => ?_)
      refine rn_iload_n 27 dX4_dropOldest_26 rfl rfl ?_
      refine ro_aaload 28 dX4_dropOldest_27 rfl hf (fun r3 hf => ?_)
      refine ro_aastore 29 dX4_dropOldest_28 rfl hf (fun h4 hf => ?_)
      refine rn_iinc (lv' := [(0, .ref (ad G o0)), (1, .ref (ad G o1)), (2, .int (x2 + 1))]) 32 dX4_dropOldest_29 rfl (Nat.le_of_ble_eq_true rfl) rfl (inc_1 _) rfl ?_
      refine rn_goto 9 dX4_dropOldest_32 rfl ?_
      exact ih _ _ hf
theorem T_X4_dropOldest {G : WG} {post : PO} {h : AH} {o : Nat} (hf : OkA (F_X4_dropOldest h o) (fun q => post none q)) : Rn G M_X4_dropOldest (0, 0) 0 [(0, .ref (ad G o))] [] h post := by
  obtain ⟨_, hf⟩ := ok_ck2 hf
  refine rn_aload_n 1 dX4_dropOldest_0 rfl rfl ?_
  refine ro_gtR 4 dX4_dropOldest_1 rfl f_X4_36 ft_4_5 hf (fun r1 hf => ?_)
  refine rn_iconst 5 dX4_dropOldest_4 rfl ic_0 ?_
  refine ro_aaload 6 dX4_dropOldest_5 rfl hf (fun r2 hf => ?_)
  refine rn_astore_n (lv' := [(0, .ref (ad G o)), (1, .ref (ad G r2))]) 7 dX4_dropOldest_6 rfl (Nat.le_of_ble_eq_true rfl) rfl ?_
  refine rn_iconst 8 dX4_dropOldest_7 rfl ic_1 ?_
  refine rn_istore_n (lv' := [(0, .ref (ad G o)), (1, .ref (ad G r2)), (2, .int 1)]) 9 dX4_dropOldest_8 rfl (Nat.le_of_ble_eq_true rfl) rfl ?_
  refine TL_X4_dropOldest_9 ?_ FU _ _ hf
  intro h5 y6 hf
  refine rn_aload_n 36 dX4_dropOldest_35 rfl rfl ?_
  refine ro_gtR 39 dX4_dropOldest_36 rfl f_X4_36 ft_4_5 hf (fun r7 hf => ?_)
  refine rn_bipush 41 dX4_dropOldest_39 rfl bp_7 ?_
  refine rn_aload_n 42 dX4_dropOldest_41 rfl rfl ?_
  refine ro_aastore 43 dX4_dropOldest_42 rfl hf (fun h8 hf => ?_)
  refine rn_aload_n 44 dX4_dropOldest_43 rfl rfl ?_
  refine rn_bipush 46 dX4_dropOldest_44 rfl bp_7 ?_
  refine ro_ptI 49 dX4_dropOldest_46 rfl f_X4_80 pn_4_6 ft_4_6 rfl rfl hf (fun h9 hf => ?_)
  exact rn_vret dX4_dropOldest_49 rfl (Or.inl rfl) (ok_some hf :)
theorem T_X3_copyFrom {G : WG} {post : PO} {h : AH} {o : Nat} {o1 : Nat} (hf : OkA (F_X3_copyFrom h o o1) (fun q => post none q)) : Rn G M_X3_copyFrom (0, 0) 0 [(0, .ref (ad G o)), (1, .ref (ad G o1))] [] h post := by
  obtain ⟨_, hf⟩ := ok_ck2 hf
  refine rn_aload_n 1 dX3_copyFrom_0 rfl rfl ?_
  refine ro_gtR 4 dX3_copyFrom_1 rfl f_X3_9 ft_3_0 hf (fun r1 hf => ?_)
  refine rn_iconst 5 dX3_copyFrom_4 rfl ic_0 ?_
  refine rn_aload_n 6 dX3_copyFrom_5 rfl rfl ?_
  refine ro_gtR 9 dX3_copyFrom_6 rfl f_X3_9 ft_3_0 hf (fun r2 hf => ?_)
  refine rn_iconst 10 dX3_copyFrom_9 rfl ic_0 ?_
  refine rn_bipush 12 dX3_copyFrom_10 rfl bp_8 ?_
  refine ro_copy 15 dX3_copyFrom_12 rfl l_X3_48 ⟨Nat.le_of_ble_eq_true rfl, Nat.le_of_ble_eq_true rfl⟩ hf (fun h3 hf => ?_)
  refine rn_aload_n 16 dX3_copyFrom_15 rfl rfl ?_
  refine ro_gtR 19 dX3_copyFrom_16 rfl f_X3_15 ft_3_1 hf (fun r4 hf => ?_)
  refine rn_iconst 20 dX3_copyFrom_19 rfl ic_0 ?_
  refine rn_aload_n 21 dX3_copyFrom_20 rfl rfl ?_
  refine ro_gtR 24 dX3_copyFrom_21 rfl f_X3_15 ft_3_1 hf (fun r5 hf => ?_)
  refine rn_iconst 25 dX3_copyFrom_24 rfl ic_0 ?_
  refine rn_bipush 27 dX3_copyFrom_25 rfl bp_8 ?_
  refine ro_copy 30 dX3_copyFrom_27 rfl l_X3_48 ⟨Nat.le_of_ble_eq_true rfl, Nat.le_of_ble_eq_true rfl⟩ hf (fun h6 hf => ?_)
  refine rn_aload_n 31 dX3_copyFrom_30 rfl rfl ?_
  refine ro_gtR 34 dX3_copyFrom_31 rfl f_X3_18 ft_3_2 hf (fun r7 hf => ?_)
  refine rn_iconst 35 dX3_copyFrom_34 rfl ic_0 ?_
  refine rn_aload_n 36 dX3_copyFrom_35 rfl rfl ?_
  refine ro_gtR 39 dX3_copyFrom_36 rfl f_X3_18 ft_3_2 hf (fun r8 hf => ?_)
  refine rn_iconst 40 dX3_copyFrom_39 rfl ic_0 ?_
  refine rn_bipush 42 dX3_copyFrom_40 rfl bp_8 ?_
  refine ro_copy 45 dX3_copyFrom_42 rfl l_X3_48 ⟨Nat.le_of_ble_eq_true rfl, Nat.le_of_ble_eq_true rfl⟩ hf (fun h9 hf => ?_)
  refine rn_aload_n 46 dX3_copyFrom_45 rfl rfl ?_
  refine ro_gtR 49 dX3_copyFrom_46 rfl f_X3_21 ft_3_3 hf (fun r10 hf => ?_)
  refine rn_iconst 50 dX3_copyFrom_49 rfl ic_0 ?_
  refine rn_aload_n 51 dX3_copyFrom_50 rfl rfl ?_
  refine ro_gtR 54 dX3_copyFrom_51 rfl f_X3_21 ft_3_3 hf (fun r11 hf => ?_)
  refine rn_iconst 55 dX3_copyFrom_54 rfl ic_0 ?_
  refine rn_bipush 57 dX3_copyFrom_55 rfl bp_8 ?_
  refine ro_copy 60 dX3_copyFrom_57 rfl l_X3_48 ⟨Nat.le_of_ble_eq_true rfl, Nat.le_of_ble_eq_true rfl⟩ hf (fun h12 hf => ?_)
  refine rn_aload_n 61 dX3_copyFrom_60 rfl rfl ?_
  refine ro_gtR 64 dX3_copyFrom_61 rfl f_X3_24 ft_3_4 hf (fun r13 hf => ?_)
  refine rn_iconst 65 dX3_copyFrom_64 rfl ic_0 ?_
  refine rn_aload_n 66 dX3_copyFrom_65 rfl rfl ?_
  refine ro_gtR 69 dX3_copyFrom_66 rfl f_X3_24 ft_3_4 hf (fun r14 hf => ?_)
  refine rn_iconst 70 dX3_copyFrom_69 rfl ic_0 ?_
  refine rn_iconst 71 dX3_copyFrom_70 rfl ic_5 ?_
  refine ro_copy 74 dX3_copyFrom_71 rfl l_X3_48 ⟨Nat.le_of_ble_eq_true rfl, Nat.le_of_ble_eq_true rfl⟩ hf (fun h15 hf => ?_)
  refine rn_aload_n 75 dX3_copyFrom_74 rfl rfl ?_
  refine ro_gtR 78 dX3_copyFrom_75 rfl f_X3_27 ft_3_5 hf (fun r16 hf => ?_)
  refine rn_iconst 79 dX3_copyFrom_78 rfl ic_0 ?_
  refine rn_aload_n 80 dX3_copyFrom_79 rfl rfl ?_
  refine ro_gtR 83 dX3_copyFrom_80 rfl f_X3_27 ft_3_5 hf (fun r17 hf => ?_)
  refine rn_iconst 84 dX3_copyFrom_83 rfl ic_0 ?_
  refine rn_iconst 85 dX3_copyFrom_84 rfl ic_5 ?_
  refine ro_copy 88 dX3_copyFrom_85 rfl l_X3_48 ⟨Nat.le_of_ble_eq_true rfl, Nat.le_of_ble_eq_true rfl⟩ hf (fun h18 hf => ?_)
  refine rn_aload_n 89 dX3_copyFrom_88 rfl rfl ?_
  refine ro_gtR 92 dX3_copyFrom_89 rfl f_X3_30 ft_3_6 hf (fun r19 hf => ?_)
  refine rn_iconst 93 dX3_copyFrom_92 rfl ic_0 ?_
  refine rn_aload_n 94 dX3_copyFrom_93 rfl rfl ?_
  refine ro_gtR 97 dX3_copyFrom_94 rfl f_X3_30 ft_3_6 hf (fun r20 hf => ?_)
  refine rn_iconst 98 dX3_copyFrom_97 rfl ic_0 ?_
  refine rn_iconst 99 dX3_copyFrom_98 rfl ic_5 ?_
  refine ro_copy 102 dX3_copyFrom_99 rfl l_X3_48 ⟨Nat.le_of_ble_eq_true rfl, Nat.le_of_ble_eq_true rfl⟩ hf (fun h21 hf => ?_)
  refine rn_aload_n 103 dX3_copyFrom_102 rfl rfl ?_
  refine ro_gtR 106 dX3_copyFrom_103 rfl f_X3_33 ft_3_7 hf (fun r22 hf => ?_)
  refine rn_iconst 107 dX3_copyFrom_106 rfl ic_0 ?_
  refine rn_aload_n 108 dX3_copyFrom_107 rfl rfl ?_
  refine ro_gtR 111 dX3_copyFrom_108 rfl f_X3_33 ft_3_7 hf (fun r23 hf => ?_)
  refine rn_iconst 112 dX3_copyFrom_111 rfl ic_0 ?_
  refine rn_iconst 113 dX3_copyFrom_112 rfl ic_5 ?_
  refine ro_copy 116 dX3_copyFrom_113 rfl l_X3_48 ⟨Nat.le_of_ble_eq_true rfl, Nat.le_of_ble_eq_true rfl⟩ hf (fun h24 hf => ?_)
  refine rn_aload_n 117 dX3_copyFrom_116 rfl rfl ?_
  refine ro_gtR 120 dX3_copyFrom_117 rfl f_X3_36 ft_3_8 hf (fun r25 hf => ?_)
  refine rn_iconst 121 dX3_copyFrom_120 rfl ic_0 ?_
  refine rn_aload_n 122 dX3_copyFrom_121 rfl rfl ?_
  refine ro_gtR 125 dX3_copyFrom_122 rfl f_X3_36 ft_3_8 hf (fun r26 hf => ?_)
  refine rn_iconst 126 dX3_copyFrom_125 rfl ic_0 ?_
  refine rn_iconst 127 dX3_copyFrom_126 rfl ic_5 ?_
  refine ro_copy 130 dX3_copyFrom_127 rfl l_X3_48 ⟨Nat.le_of_ble_eq_true rfl, Nat.le_of_ble_eq_true rfl⟩ hf (fun h27 hf => ?_)
  refine rn_aload_n 131 dX3_copyFrom_130 rfl rfl ?_
  refine rn_aload_n 132 dX3_copyFrom_131 rfl rfl ?_
  refine ro_gtI 135 dX3_copyFrom_132 rfl f_X3_57 ft_3_9 hf (fun v28 hf => ?_)
  refine ro_ptI 138 dX3_copyFrom_135 rfl f_X3_57 pn_3_9 ft_3_9 rfl rfl hf (fun h29 hf => ?_)
  refine rn_aload_n 139 dX3_copyFrom_138 rfl rfl ?_
  refine rn_aload_n 140 dX3_copyFrom_139 rfl rfl ?_
  refine ro_gtI 143 dX3_copyFrom_140 rfl f_X3_61 ft_3_10 hf (fun v30 hf => ?_)
  refine ro_ptZ 146 dX3_copyFrom_143 rfl f_X3_61 pn_3_10 ft_3_10 tz_3_10 hf (fun h31 hf => ?_)
  refine rn_aload_n 147 dX3_copyFrom_146 rfl rfl ?_
  refine rn_aload_n 148 dX3_copyFrom_147 rfl rfl ?_
  refine ro_gtI 151 dX3_copyFrom_148 rfl f_X3_65 ft_3_11 hf (fun v32 hf => ?_)
  refine ro_ptI 154 dX3_copyFrom_151 rfl f_X3_65 pn_3_11 ft_3_11 rfl rfl hf (fun h33 hf => ?_)
  refine rn_aload_n 155 dX3_copyFrom_154 rfl rfl ?_
  refine rn_aload_n 156 dX3_copyFrom_155 rfl rfl ?_
  refine ro_gtI 159 dX3_copyFrom_156 rfl f_X3_68 ft_3_12 hf (fun v34 hf => ?_)
  refine ro_ptI 162 dX3_copyFrom_159 rfl f_X3_68 pn_3_12 ft_3_12 rfl rfl hf (fun h35 hf => ?_)
  refine rn_aload_n 163 dX3_copyFrom_162 rfl rfl ?_
  refine rn_aload_n 164 dX3_copyFrom_163 rfl rfl ?_
  refine ro_gtI 167 dX3_copyFrom_164 rfl f_X3_71 ft_3_13 hf (fun v36 hf => ?_)
  refine ro_ptI 170 dX3_copyFrom_167 rfl f_X3_71 pn_3_13 ft_3_13 rfl rfl hf (fun h37 hf => ?_)
  exact rn_vret dX3_copyFrom_170 rfl (Or.inl rfl) (ok_some hf :)
theorem T_X4_remember {G : WG} {post : PO} {h : AH} {o : Nat} (hf : OkA (F_X4_remember h o) (fun q => post none q)) : Rn G M_X4_remember (0, 0) 0 [(0, .ref (ad G o))] [] h post := by
  obtain ⟨_, hf⟩ := ok_ck2 hf
  refine rn_aload_n 1 dX4_remember_0 rfl rfl ?_
  refine ro_gtI 4 dX4_remember_1 rfl f_X4_80 ft_4_6 hf (fun v1 hf => ?_)
  refine rn_bipush 6 dX4_remember_4 rfl bp_8 ?_
  refine ro_reg (X := (fun q2 : AH => Rn G M_X4_remember (0, 0) 13 [(0, .ref (ad G o))] [] q2 post)) hf (fun q2 hf => ?_) (fun hf => ?_)
  · refine rn_aload_n 14 dX4_remember_13 rfl rfl ?_
    refine ro_gtR 17 dX4_remember_14 rfl f_X4_36 ft_4_5 hf (fun r4 hf => ?_)
    refine rn_aload_n 18 dX4_remember_17 rfl rfl ?_
    refine ro_gtI 21 dX4_remember_18 rfl f_X4_80 ft_4_6 hf (fun v5 hf => ?_)
    refine ro_aaload 22 dX4_remember_21 rfl hf (fun r6 hf => ?_)
    refine rn_aload_n 23 dX4_remember_22 rfl rfl ?_
    refine ro_gtR 26 dX4_remember_23 rfl f_X4_29 ft_4_3 hf (fun r7 hf => ?_)
    refine ro_cVv (M' := M_X3_copyFrom) (As := [.ref (ad G r7)]) (o := r6) (st := []) 29 (0, 0) dX4_remember_26 rfl l_X4_163 v_X3_copyFrom ⟨Nat.le_of_ble_eq_true rfl, Nat.le_of_ble_eq_true rfl⟩ rfl rfl (Nat.le_of_ble_eq_true rfl) (Nat.le_of_ble_eq_true rfl) ⟨rfl, Nat.le_of_ble_eq_true rfl, Nat.le_of_ble_eq_true rfl⟩ hf (fun X z => ok_ck z) rfl (fun X z => T_X3_copyFrom z) (fun h8 hf => ?_)
    refine rn_aload_n 30 dX4_remember_29 rfl rfl ?_
    refine rn_dup 31 dX4_remember_30 rfl rfl ?_
    refine ro_gtI 34 dX4_remember_31 rfl f_X4_80 ft_4_6 hf (fun v9 hf => ?_)
    refine rn_iconst 35 dX4_remember_34 rfl ic_1 ?_
    refine rn_iadd 36 dX4_remember_35 rfl ?_
    refine ro_ptI 39 dX4_remember_36 rfl f_X4_80 pn_4_6 ft_4_6 rfl rfl hf (fun h10 hf => ?_)
    exact rn_vret dX4_remember_39 rfl (Or.inl rfl) (ok_some hf :)
  · refine ro_icmp_lt 13 9 dX4_remember_6 rfl rfl hf (fun hf => ?_) (fun hf => ?_)
    · exact (ok_some hf :)
    · refine rn_aload_n 10 dX4_remember_9 rfl rfl ?_
      refine ro_cVv (M' := M_X4_dropOldest) (As := []) (o := o) (st := []) 13 (0, 0) dX4_remember_10 rfl l_X4_213 v_X4_dropOldest ⟨Nat.le_of_ble_eq_true rfl, Nat.le_of_ble_eq_true rfl⟩ rfl rfl (Nat.le_of_ble_eq_true rfl) (Nat.le_of_ble_eq_true rfl) ⟨rfl, Nat.le_of_ble_eq_true rfl, Nat.le_of_ble_eq_true rfl⟩ hf (fun X z => ok_ck z) rfl (fun X z => T_X4_dropOldest z) (fun h3 hf => ?_)
      exact (ok_some hf :)
theorem T_X3_laysToday {G : WG} {post : PO} {h : AH} {o : Nat} {x1 : Int32} (hf : OkA (F_X3_laysToday h o x1) (fun q => post (some q) h)) : Rn G M_X3_laysToday (0, 0) 0 [(0, .ref (ad G o)), (1, .int x1)] [] h post := by
  obtain ⟨_, hf⟩ := ok_ck2 hf
  refine rn_aload_n 1 dX3_laysToday_0 rfl rfl ?_
  refine ro_gtI 4 dX3_laysToday_1 rfl f_X3_61 ft_3_10 hf (fun v1 hf => ?_)
  refine ro_if_ne 30 7 dX3_laysToday_4 rfl rfl hf (fun hf => ?_) (fun hf => ?_)
  · refine rn_iconst 31 dX3_laysToday_30 rfl ic_0 ?_
    exact rn_iret .boolean dX3_laysToday_31 rfl rfl (Or.inl rfl) (ok_some hf :)
  · refine rn_aload_n 8 dX3_laysToday_7 rfl rfl ?_
    refine ro_gtR 11 dX3_laysToday_8 rfl f_X3_24 ft_3_4 hf (fun r2 hf => ?_)
    refine rn_iload_n 12 dX3_laysToday_11 rfl rfl ?_
    refine ro_iaload 13 dX3_laysToday_12 rfl hf (fun v3 hf => ?_)
    refine rn_iconst 14 dX3_laysToday_13 rfl ic_1 ?_
    refine ro_icmp_ne 26 17 dX3_laysToday_14 rfl rfl hf (fun hf => ?_) (fun hf => ?_)
    · refine rn_iconst 27 dX3_laysToday_26 rfl ic_1 ?_
      refine rn_goto 31 dX3_laysToday_27 rfl ?_
      exact rn_iret .boolean dX3_laysToday_31 rfl rfl (Or.inl rfl) (ok_some hf :)
    · refine rn_aload_n 18 dX3_laysToday_17 rfl rfl ?_
      refine ro_gtI 21 dX3_laysToday_18 rfl f_X3_57 ft_3_9 hf (fun v4 hf => ?_)
      refine rn_iconst 22 dX3_laysToday_21 rfl ic_2 ?_
      refine ro_irem 23 dX3_laysToday_22 rfl hf (fun v5 hf => ?_)
      refine ro_if_ne 30 26 dX3_laysToday_23 rfl rfl hf (fun hf => ?_) (fun hf => ?_)
      · refine rn_iconst 31 dX3_laysToday_30 rfl ic_0 ?_
        exact rn_iret .boolean dX3_laysToday_31 rfl rfl (Or.inl rfl) (ok_some hf :)
      · refine rn_iconst 27 dX3_laysToday_26 rfl ic_1 ?_
        refine rn_goto 31 dX3_laysToday_27 rfl ?_
        exact rn_iret .boolean dX3_laysToday_31 rfl rfl (Or.inl rfl) (ok_some hf :)
theorem TL_X3_favourite_8 {G : WG} {post : PO} {β : Type} {P : β → Prop} {h : AH} {o0 : Nat} {o1 : Nat} {x2 : Int32} {k : Int32 → Int32 → Int32 → Option (β)} (hk : ∀ (x3 : Int32) (x4 : Int32) (x5 : Int32), OkA (k x3 x4 x5) P → Rn G M_X3_favourite (0, 0) 63 [(0, .ref (ad G o0)), (1, .ref (ad G o1)), (2, .int x2), (3, .int x3), (4, .int x4), (5, .int x5)] [] h post) : ∀ (n : Nat) (x3 : Int32) (x4 : Int32) (x5 : Int32), OkA (L_X3_favourite_8 h o0 o1 x2 k n x3 x4 x5) P → Rn G M_X3_favourite (0, 0) 8 [(0, .ref (ad G o0)), (1, .ref (ad G o1)), (2, .int x2), (3, .int x3), (4, .int x4), (5, .int x5)] [] h post := by
  intro n
  induction n with
  | zero => intro _ _ _ hf; exact absurd hf ok_none
  | succ n ih =>
    intro x3 x4 x5 hf
    refine rn_iload 10 dX3_favourite_8 rfl rfl ?_
    refine rn_aload_n 11 dX3_favourite_10 rfl rfl ?_
    refine ro_gtI 14 dX3_favourite_11 rfl f_X3_93 ft_2_0 hf (fun v1 hf => ?_)
    refine ro_icmp_ge 63 17 dX3_favourite_14 rfl rfl hf (fun hf => ?_) (fun hf => ?_)
    · exact hk _ _ _ hf
    · refine rn_aload_n 18 dX3_favourite_17 rfl rfl ?_
      refine ro_gtR 21 dX3_favourite_18 rfl f_X3_18 ft_3_2 hf (fun r2 hf => ?_)
      refine rn_iload 23 dX3_favourite_21 rfl rfl ?_
      refine ro_iaload 24 dX3_favourite_23 rfl hf (fun v3 hf => ?_)
      refine rn_iconst 25 dX3_favourite_24 rfl ic_m1 ?_
      refine ro_reg (X := (fun q4 : Int32 × Int32 => Rn G M_X3_favourite (0, 0) 57 [(0, .ref (ad G o0)), (1, .ref (ad G o1)), (2, .int x2), (3, .int q4.1), (4, .int q4.2), (5, .int x5)] [] h post)) hf (fun q4 hf => ?_) (fun hf => ?_)
      · refine rn_iinc (lv' := [(0, .ref (ad G o0)), (1, .ref (ad G o1)), (2, .int x2), (3, .int q4.1), (4, .int q4.2), (5, .int (x5 + 1))]) 60 dX3_favourite_57 rfl (Nat.le_of_ble_eq_true rfl) rfl (inc_1 _) rfl ?_
        refine rn_goto 8 dX3_favourite_60 rfl ?_
        exact ih _ _ _ hf
      · refine ro_icmp_ne 57 28 dX3_favourite_25 rfl rfl hf (fun hf => ?_) (fun hf => ?_)
        · exact (ok_some hf :)
        · refine rn_aload_n 29 dX3_favourite_28 rfl rfl ?_
          refine rn_aload_n 30 dX3_favourite_29 rfl rfl ?_
          refine rn_iload_n 31 dX3_favourite_30 rfl rfl ?_
          refine rn_iload 33 dX3_favourite_31 rfl rfl ?_
          refine ro_cVp (M' := M_X3_likes) (As := [.ref (ad G o1), .int x2, .int x5]) (o := o0) (st := []) 36 (0, 0) dX3_favourite_33 rfl l_X3_96 v_X3_likes ⟨Nat.le_of_ble_eq_true rfl, Nat.le_of_ble_eq_true rfl⟩ rfl rfl (Nat.le_of_ble_eq_true rfl) (Nat.le_of_ble_eq_true rfl) ⟨rfl, Nat.le_of_ble_eq_true rfl, Nat.le_of_ble_eq_true rfl⟩ hf (fun X z => ok_ck z) rfl (fun X z => T_X3_likes z) (fun v5 hf => ?_)
          refine rn_istore (lv' := [(0, .ref (ad G o0)), (1, .ref (ad G o1)), (2, .int x2), (3, .int x3), (4, .int x4), (5, .int x5), (6, .int v5)]) 38 dX3_favourite_36 rfl (Nat.le_of_ble_eq_true rfl) rfl ?_
          refine rn_iload_n 39 dX3_favourite_38 rfl rfl ?_
          refine rn_iconst 40 dX3_favourite_39 rfl ic_m1 ?_
          refine ro_icmp_eq 50 43 dX3_favourite_40 rfl rfl hf (fun hf => ?_) (fun hf => ?_)
          · refine rn_iload 52 dX3_favourite_50 rfl rfl ?_
            refine rn_istore_n (lv' := [(0, .ref (ad G o0)), (1, .ref (ad G o1)), (2, .int x2), (3, .int x5), (4, .int x4), (5, .int x5), (6, .int v5)]) 53 dX3_favourite_52 rfl (Nat.le_of_ble_eq_true rfl) rfl ?_
            refine rn_iload 55 dX3_favourite_53 rfl rfl ?_
            refine rn_istore (lv' := [(0, .ref (ad G o0)), (1, .ref (ad G o1)), (2, .int x2), (3, .int x5), (4, .int v5), (5, .int x5), (6, .int v5)]) 57 dX3_favourite_55 rfl (Nat.le_of_ble_eq_true rfl) rfl ?_
            refine rn_take (lv' := [(0, .ref (ad G o0)), (1, .ref (ad G o1)), (2, .int x2), (3, .int x5), (4, .int v5), (5, .int x5)]) [0, 1, 2, 3, 4, 5] rfl ?_
            exact (ok_some hf :)
          · refine rn_iload 45 dX3_favourite_43 rfl rfl ?_
            refine rn_iload 47 dX3_favourite_45 rfl rfl ?_
            refine ro_icmp_le 57 50 dX3_favourite_47 rfl rfl hf (fun hf => ?_) (fun hf => ?_)
            · refine rn_take (lv' := [(0, .ref (ad G o0)), (1, .ref (ad G o1)), (2, .int x2), (3, .int x3), (4, .int x4), (5, .int x5)]) [0, 1, 2, 3, 4, 5] rfl ?_
              exact (ok_some hf :)
            · refine rn_iload 52 dX3_favourite_50 rfl rfl ?_
              refine rn_istore_n (lv' := [(0, .ref (ad G o0)), (1, .ref (ad G o1)), (2, .int x2), (3, .int x5), (4, .int x4), (5, .int x5), (6, .int v5)]) 53 dX3_favourite_52 rfl (Nat.le_of_ble_eq_true rfl) rfl ?_
              refine rn_iload 55 dX3_favourite_53 rfl rfl ?_
              refine rn_istore (lv' := [(0, .ref (ad G o0)), (1, .ref (ad G o1)), (2, .int x2), (3, .int x5), (4, .int v5), (5, .int x5), (6, .int v5)]) 57 dX3_favourite_55 rfl (Nat.le_of_ble_eq_true rfl) rfl ?_
              refine rn_take (lv' := [(0, .ref (ad G o0)), (1, .ref (ad G o1)), (2, .int x2), (3, .int x5), (4, .int v5), (5, .int x5)]) [0, 1, 2, 3, 4, 5] rfl ?_
              exact (ok_some hf :)
theorem T_X3_favourite {G : WG} {post : PO} {h : AH} {o : Nat} {o1 : Nat} {x2 : Int32} (hf : OkA (F_X3_favourite h o o1 x2) (fun q => post (some q) h)) : Rn G M_X3_favourite (0, 0) 0 [(0, .ref (ad G o)), (1, .ref (ad G o1)), (2, .int x2)] [] h post := by
  obtain ⟨_, hf⟩ := ok_ck2 hf
  refine rn_iconst 1 dX3_favourite_0 rfl ic_m1 ?_
  refine rn_istore_n (lv' := [(0, .ref (ad G o)), (1, .ref (ad G o1)), (2, .int x2), (3, .int (-1))]) 2 dX3_favourite_1 rfl (Nat.le_of_ble_eq_true rfl) rfl ?_
  refine rn_iconst 3 dX3_favourite_2 rfl ic_0 ?_
  refine rn_istore (lv' := [(0, .ref (ad G o)), (1, .ref (ad G o1)), (2, .int x2), (3, .int (-1)), (4, .int 0)]) 5 dX3_favourite_3 rfl (Nat.le_of_ble_eq_true rfl) rfl ?_
  refine rn_iconst 6 dX3_favourite_5 rfl ic_0 ?_
  refine rn_istore (lv' := [(0, .ref (ad G o)), (1, .ref (ad G o1)), (2, .int x2), (3, .int (-1)), (4, .int 0), (5, .int 0)]) 8 dX3_favourite_6 rfl (Nat.le_of_ble_eq_true rfl) rfl ?_
  refine TL_X3_favourite_8 ?_ FU _ _ _ hf
  intro y6 y7 y8 hf
  refine rn_iload_n 64 dX3_favourite_63 rfl rfl ?_
  exact rn_iret .int dX3_favourite_64 rfl rfl (Or.inl rfl) (ok_some hf :)
theorem T_J9_floorMod_7cf53 {G : WG} {post : PO} {h : AH} {x0 : Int32} {x1 : Int32} (hf : OkA (F_J9_floorMod_7cf53 h x0 x1) (fun q => post (some q) h)) : Rn G M_J9_floorMod_7cf53 (0, 0) 0 [(0, .int x0), (1, .int x1)] [] h post := by
  refine rn_iload_n 1 dJ9_floorMod_7cf53_0 rfl rfl ?_
  refine rn_iload_n 2 dJ9_floorMod_7cf53_1 rfl rfl ?_
  refine ro_irem 3 dJ9_floorMod_7cf53_2 rfl hf (fun v1 hf => ?_)
  refine rn_istore_n (lv' := [(0, .int x0), (1, .int x1), (2, .int v1)]) 4 dJ9_floorMod_7cf53_3 rfl (Nat.le_of_ble_eq_true rfl) rfl ?_
  refine rn_iload_n 5 dJ9_floorMod_7cf53_4 rfl rfl ?_
  refine rn_iload_n 6 dJ9_floorMod_7cf53_5 rfl rfl ?_
  refine rn_ixor 7 dJ9_floorMod_7cf53_6 rfl ?_
  refine ro_if_ge 18 10 dJ9_floorMod_7cf53_7 rfl rfl hf (fun hf => ?_) (fun hf => ?_)
  · refine rn_iload_n 19 dJ9_floorMod_7cf53_18 rfl rfl ?_
    exact rn_iret .int dJ9_floorMod_7cf53_19 rfl rfl (Or.inl rfl) (ok_some hf :)
  · refine rn_iload_n 11 dJ9_floorMod_7cf53_10 rfl rfl ?_
    refine ro_if_eq 18 14 dJ9_floorMod_7cf53_11 rfl rfl hf (fun hf => ?_) (fun hf => ?_)
    · refine rn_iload_n 19 dJ9_floorMod_7cf53_18 rfl rfl ?_
      exact rn_iret .int dJ9_floorMod_7cf53_19 rfl rfl (Or.inl rfl) (ok_some hf :)
    · refine rn_iload_n 15 dJ9_floorMod_7cf53_14 rfl rfl ?_
      refine rn_iload_n 16 dJ9_floorMod_7cf53_15 rfl rfl ?_
      refine rn_iadd 17 dJ9_floorMod_7cf53_16 rfl ?_
      exact rn_iret .int dJ9_floorMod_7cf53_17 rfl rfl (Or.inl rfl) (ok_some hf :)
theorem T_X2_newsOf {G : WG} {post : PO} {h : AH} {o : Nat} {x1 : Int32} (hf : OkA (F_X2_newsOf h o x1) (fun q => post (some q) h)) : Rn G M_X2_newsOf (0, 0) 0 [(0, .ref (ad G o)), (1, .int x1)] [] h post := by
  obtain ⟨_, hf⟩ := ok_ck2 hf
  refine rn_aload_n 1 dX2_newsOf_0 rfl rfl ?_
  refine ro_gtR 4 dX2_newsOf_1 rfl f_X2_27 ft_2_7 hf (fun r1 hf => ?_)
  refine rn_iload_n 5 dX2_newsOf_4 rfl rfl ?_
  refine rn_bipush 7 dX2_newsOf_5 rfl bp_14 ?_
  refine ro_cSp (M' := M_J9_floorMod_7cf53) (As := [.int x1, .int 14]) (st := [.ref (ad G r1)]) 10 (0, 0) dX2_newsOf_7 rfl l_X2_46 v_J9_floorMod_7cf53 ⟨Nat.le_of_ble_eq_true rfl, Nat.le_of_ble_eq_true rfl⟩ rfl rfl (Nat.le_of_ble_eq_true rfl) (Nat.le_of_ble_eq_true rfl) ⟨rfl, Nat.le_of_ble_eq_true rfl, Nat.le_of_ble_eq_true rfl⟩ hf (fun X z => T_J9_floorMod_7cf53 z) (fun v2 hf => ?_)
  refine ro_iaload 11 dX2_newsOf_10 rfl hf (fun v3 hf => ?_)
  exact rn_iret .int dX2_newsOf_11 rfl rfl (Or.inl rfl) (ok_some hf :)
theorem T_X3_layEgg {G : WG} {post : PO} {h : AH} {o : Nat} {x1 : Int32} {x2 : Int32} {x3 : Int32} (hf : OkA (F_X3_layEgg h o x1 x2 x3) (fun q => post none q)) : Rn G M_X3_layEgg (0, 0) 0 [(0, .ref (ad G o)), (1, .int x1), (2, .int x2), (3, .int x3)] [] h post := by
  obtain ⟨_, hf⟩ := ok_ck2 hf
  refine rn_iload_n 1 dX3_layEgg_0 rfl rfl ?_
  refine rn_aload_n 2 dX3_layEgg_1 rfl rfl ?_
  refine ro_gtR 5 dX3_layEgg_2 rfl f_X3_9 ft_3_0 hf (fun r1 hf => ?_)
  refine rn_iload_n 6 dX3_layEgg_5 rfl rfl ?_
  refine ro_iaload 7 dX3_layEgg_6 rfl hf (fun v2 hf => ?_)
  refine ro_reg (X := (fun q3 : Int32 => Rn G M_X3_layEgg (0, 0) 15 [(0, .ref (ad G o)), (1, .int x1), (2, .int x2), (3, .int x3)] [.int q3] h post)) hf (fun q3 hf => ?_) (fun hf => ?_)
  · refine rn_istore (lv' := [(0, .ref (ad G o)), (1, .int x1), (2, .int x2), (3, .int x3), (4, .int q3)]) 17 dX3_layEgg_15 rfl (Nat.le_of_ble_eq_true rfl) rfl ?_
    refine rn_aload_n 18 dX3_layEgg_17 rfl rfl ?_
    refine ro_gtR 21 dX3_layEgg_18 rfl f_X3_18 ft_3_2 hf (fun r4 hf => ?_)
    refine rn_iload_n 22 dX3_layEgg_21 rfl rfl ?_
    refine rn_iload_n 23 dX3_layEgg_22 rfl rfl ?_
    refine ro_iastore 24 dX3_layEgg_23 rfl hf (fun h5 hf => ?_)
    refine rn_aload_n 25 dX3_layEgg_24 rfl rfl ?_
    refine ro_gtR 28 dX3_layEgg_25 rfl f_X3_30 ft_3_6 hf (fun r6 hf => ?_)
    refine rn_iload_n 29 dX3_layEgg_28 rfl rfl ?_
    refine rn_iload_n 30 dX3_layEgg_29 rfl rfl ?_
    refine ro_iastore 31 dX3_layEgg_30 rfl hf (fun h7 hf => ?_)
    refine rn_aload_n 32 dX3_layEgg_31 rfl rfl ?_
    refine ro_gtR 35 dX3_layEgg_32 rfl f_X3_21 ft_3_3 hf (fun r8 hf => ?_)
    refine rn_iload_n 36 dX3_layEgg_35 rfl rfl ?_
    refine rn_iload 38 dX3_layEgg_36 rfl rfl ?_
    refine ro_reg (X := (fun q9 : Int32 => Rn G M_X3_layEgg (0, 0) 46 [(0, .ref (ad G o)), (1, .int x1), (2, .int x2), (3, .int x3), (4, .int q3)] [.int q9, .int x2, .ref (ad G r8)] h7 post)) hf (fun q9 hf => ?_) (fun hf => ?_)
    · refine ro_iastore 47 dX3_layEgg_46 rfl hf (fun h10 hf => ?_)
      refine rn_iload 49 dX3_layEgg_47 rfl rfl ?_
      refine ro_if_eq 65 52 dX3_layEgg_49 rfl rfl hf (fun hf => ?_) (fun hf => ?_)
      · refine rn_aload_n 66 dX3_layEgg_65 rfl rfl ?_
        refine ro_gtR 69 dX3_layEgg_66 rfl f_X3_36 ft_3_8 hf (fun r11 hf => ?_)
        refine rn_iload_n 70 dX3_layEgg_69 rfl rfl ?_
        refine rn_dup2 71 dX3_layEgg_70 rfl rfl rfl ?_
        refine ro_iaload 72 dX3_layEgg_71 rfl hf (fun v12 hf => ?_)
        refine rn_iconst 73 dX3_layEgg_72 rfl ic_1 ?_
        refine rn_iadd 74 dX3_layEgg_73 rfl ?_
        refine ro_iastore 75 dX3_layEgg_74 rfl hf (fun h13 hf => ?_)
        exact rn_vret dX3_layEgg_75 rfl (Or.inl rfl) (ok_some hf :)
      · refine rn_aload_n 53 dX3_layEgg_52 rfl rfl ?_
        refine ro_gtR 56 dX3_layEgg_53 rfl f_X3_33 ft_3_7 hf (fun r14 hf => ?_)
        refine rn_iload_n 57 dX3_layEgg_56 rfl rfl ?_
        refine rn_dup2 58 dX3_layEgg_57 rfl rfl rfl ?_
        refine ro_iaload 59 dX3_layEgg_58 rfl hf (fun v15 hf => ?_)
        refine rn_iconst 60 dX3_layEgg_59 rfl ic_1 ?_
        refine rn_iadd 61 dX3_layEgg_60 rfl ?_
        refine ro_iastore 62 dX3_layEgg_61 rfl hf (fun h16 hf => ?_)
        refine rn_goto 75 dX3_layEgg_62 rfl ?_
        exact rn_vret dX3_layEgg_75 rfl (Or.inl rfl) (ok_some hf :)
    · refine ro_if_eq 45 41 dX3_layEgg_38 rfl rfl hf (fun hf => ?_) (fun hf => ?_)
      · refine rn_iconst 46 dX3_layEgg_45 rfl ic_m1 ?_
        exact (ok_some hf :)
      · refine rn_iconst 42 dX3_layEgg_41 rfl ic_2 ?_
        refine rn_goto 46 dX3_layEgg_42 rfl ?_
        exact (ok_some hf :)
  · refine ro_icmp_ne 14 10 dX3_layEgg_7 rfl rfl hf (fun hf => ?_) (fun hf => ?_)
    · refine rn_iconst 15 dX3_layEgg_14 rfl ic_0 ?_
      exact (ok_some hf :)
    · refine rn_iconst 11 dX3_layEgg_10 rfl ic_1 ?_
      refine rn_goto 15 dX3_layEgg_11 rfl ?_
      exact (ok_some hf :)
theorem TL_X3_passDay_10 {G : WG} {post : PO} {β : Type} {P : β → Prop} {o0 : Nat} {o1 : Nat} {k : AH → Int32 → Option (β)} (hk : ∀ (h : AH) (x2 : Int32), OkA (k h x2) P → Rn G M_X3_passDay (0, 0) 62 [(0, .ref (ad G o0)), (1, .ref (ad G o1)), (2, .int x2)] [] h post) : ∀ (n : Nat) (h : AH) (x2 : Int32), OkA (L_X3_passDay_10 o0 o1 k n h x2) P → Rn G M_X3_passDay (0, 0) 10 [(0, .ref (ad G o0)), (1, .ref (ad G o1)), (2, .int x2)] [] h post := by
  intro n
  induction n with
  | zero => intro _ _ hf; exact absurd hf ok_none
  | succ n ih =>
    intro h x2 hf
    refine rn_iload_n 11 dX3_passDay_10 rfl rfl ?_
    refine rn_aload_n 12 dX3_passDay_11 rfl rfl ?_
    refine ro_gtI 15 dX3_passDay_12 rfl f_X3_74 ft_2_1 hf (fun v1 hf => ?_)
    refine ro_icmp_ge 62 18 dX3_passDay_15 rfl rfl hf (fun hf => ?_) (fun hf => ?_)
    · exact hk _ _ hf
    · refine rn_aload_n 19 dX3_passDay_18 rfl rfl ?_
      refine rn_iload_n 20 dX3_passDay_19 rfl rfl ?_
      refine ro_cVp (M' := M_X3_laysToday) (As := [.int x2]) (o := o0) (st := []) 23 (0, 0) dX3_passDay_20 rfl l_X3_77 v_X3_laysToday ⟨Nat.le_of_ble_eq_true rfl, Nat.le_of_ble_eq_true rfl⟩ rfl rfl (Nat.le_of_ble_eq_true rfl) (Nat.le_of_ble_eq_true rfl) ⟨rfl, Nat.le_of_ble_eq_true rfl, Nat.le_of_ble_eq_true rfl⟩ hf (fun X z => ok_ck z) rfl (fun X z => T_X3_laysToday z) (fun v2 hf => ?_)
      refine ro_reg (X := (fun q3 : Int32 => Rn G M_X3_passDay (0, 0) 36 [(0, .ref (ad G o0)), (1, .ref (ad G o1)), (2, .int x2)] [.int q3] h post)) hf (fun q3 hf => ?_) (fun hf => ?_)
      · refine rn_istore_n (lv' := [(0, .ref (ad G o0)), (1, .ref (ad G o1)), (2, .int x2), (3, .int q3)]) 37 dX3_passDay_36 rfl (Nat.le_of_ble_eq_true rfl) rfl ?_
        refine rn_iload_n 38 dX3_passDay_37 rfl rfl ?_
        refine rn_iconst 39 dX3_passDay_38 rfl ic_m1 ?_
        refine ro_reg (X := (fun q5 : AH => Rn G M_X3_passDay (0, 0) 56 [(0, .ref (ad G o0)), (1, .ref (ad G o1)), (2, .int x2), (3, .int q3)] [] q5 post)) hf (fun q5 hf => ?_) (fun hf => ?_)
        · refine rn_iinc (lv' := [(0, .ref (ad G o0)), (1, .ref (ad G o1)), (2, .int (x2 + 1)), (3, .int q3)]) 59 dX3_passDay_56 rfl (Nat.le_of_ble_eq_true rfl) rfl (inc_1 _) rfl ?_
          refine rn_goto 10 dX3_passDay_59 rfl ?_
          refine rn_take (lv' := [(0, .ref (ad G o0)), (1, .ref (ad G o1)), (2, .int (x2 + 1))]) [0, 1, 2] rfl ?_
          exact ih _ _ hf
        · refine ro_icmp_eq 56 42 dX3_passDay_39 rfl rfl hf (fun hf => ?_) (fun hf => ?_)
          · exact (ok_some hf :)
          · refine rn_aload_n 43 dX3_passDay_42 rfl rfl ?_
            refine rn_iload_n 44 dX3_passDay_43 rfl rfl ?_
            refine rn_iload_n 45 dX3_passDay_44 rfl rfl ?_
            refine rn_aload_n 46 dX3_passDay_45 rfl rfl ?_
            refine rn_aload_n 47 dX3_passDay_46 rfl rfl ?_
            refine ro_gtI 50 dX3_passDay_47 rfl f_X3_57 ft_3_9 hf (fun v6 hf => ?_)
            refine ro_cVp (M' := M_X2_newsOf) (As := [.int v6]) (o := o1) (st := [.int q3, .int x2, .ref (ad G o0)]) 53 (0, 0) dX3_passDay_50 rfl l_X3_85 v_X2_newsOf ⟨Nat.le_of_ble_eq_true rfl, Nat.le_of_ble_eq_true rfl⟩ rfl rfl (Nat.le_of_ble_eq_true rfl) (Nat.le_of_ble_eq_true rfl) ⟨rfl, Nat.le_of_ble_eq_true rfl, Nat.le_of_ble_eq_true rfl⟩ hf (fun X z => ok_ck z) rfl (fun X z => T_X2_newsOf z) (fun v7 hf => ?_)
            refine ro_cVv (M' := M_X3_layEgg) (As := [.int x2, .int q3, .int v7]) (o := o0) (st := []) 56 (0, 0) dX3_passDay_53 rfl l_X3_89 v_X3_layEgg ⟨Nat.le_of_ble_eq_true rfl, Nat.le_of_ble_eq_true rfl⟩ rfl rfl (Nat.le_of_ble_eq_true rfl) (Nat.le_of_ble_eq_true rfl) ⟨rfl, Nat.le_of_ble_eq_true rfl, Nat.le_of_ble_eq_true rfl⟩ hf (fun X z => ok_ck z) rfl (fun X z => T_X3_layEgg z) (fun h8 hf => ?_)
            exact (ok_some hf :)
      · refine ro_if_eq 35 26 dX3_passDay_23 rfl rfl hf (fun hf => ?_) (fun hf => ?_)
        · refine rn_iconst 36 dX3_passDay_35 rfl ic_m1 ?_
          exact (ok_some hf :)
        · refine rn_aload_n 27 dX3_passDay_26 rfl rfl ?_
          refine rn_aload_n 28 dX3_passDay_27 rfl rfl ?_
          refine rn_iload_n 29 dX3_passDay_28 rfl rfl ?_
          refine ro_cVp (M' := M_X3_favourite) (As := [.ref (ad G o1), .int x2]) (o := o0) (st := []) 32 (0, 0) dX3_passDay_29 rfl l_X3_81 v_X3_favourite ⟨Nat.le_of_ble_eq_true rfl, Nat.le_of_ble_eq_true rfl⟩ rfl rfl (Nat.le_of_ble_eq_true rfl) (Nat.le_of_ble_eq_true rfl) ⟨rfl, Nat.le_of_ble_eq_true rfl, Nat.le_of_ble_eq_true rfl⟩ hf (fun X z => ok_ck z) rfl (fun X z => T_X3_favourite z) (fun v4 hf => ?_)
          refine rn_goto 36 dX3_passDay_32 rfl ?_
          exact (ok_some hf :)
theorem T_X3_passDay {G : WG} {post : PO} {h : AH} {o : Nat} {o1 : Nat} (hf : OkA (F_X3_passDay h o o1) (fun q => post none q)) : Rn G M_X3_passDay (0, 0) 0 [(0, .ref (ad G o)), (1, .ref (ad G o1))] [] h post := by
  obtain ⟨_, hf⟩ := ok_ck2 hf
  refine rn_aload_n 1 dX3_passDay_0 rfl rfl ?_
  refine ro_gtR 4 dX3_passDay_1 rfl f_X3_18 ft_3_2 hf (fun r1 hf => ?_)
  refine rn_iconst 5 dX3_passDay_4 rfl ic_m1 ?_
  refine ro_cSv (M' := M_J7_fill_53178) (As := [.ref (ad G r1), .int (-1)]) (st := []) 8 (0, 0) dX3_passDay_5 rfl l_X3_39 v_J7_fill_53178 ⟨Nat.le_of_ble_eq_true rfl, Nat.le_of_ble_eq_true rfl⟩ rfl rfl (Nat.le_of_ble_eq_true rfl) (Nat.le_of_ble_eq_true rfl) ⟨rfl, Nat.le_of_ble_eq_true rfl, Nat.le_of_ble_eq_true rfl⟩ hf (fun X z => T_J7_fill_53178 z) (fun h2 hf => ?_)
  refine rn_iconst 9 dX3_passDay_8 rfl ic_0 ?_
  refine rn_istore_n (lv' := [(0, .ref (ad G o)), (1, .ref (ad G o1)), (2, .int 0)]) 10 dX3_passDay_9 rfl (Nat.le_of_ble_eq_true rfl) rfl ?_
  refine TL_X3_passDay_10 ?_ FU _ _ hf
  intro h9 y10 hf
  refine rn_aload_n 63 dX3_passDay_62 rfl rfl ?_
  refine rn_iconst 64 dX3_passDay_63 rfl ic_0 ?_
  refine ro_ptZ 67 dX3_passDay_64 rfl f_X3_61 pn_3_10 ft_3_10 tz_3_10 hf (fun h11 hf => ?_)
  refine rn_aload_n 68 dX3_passDay_67 rfl rfl ?_
  refine rn_dup 69 dX3_passDay_68 rfl rfl ?_
  refine ro_gtI 72 dX3_passDay_69 rfl f_X3_57 ft_3_9 hf (fun v12 hf => ?_)
  refine rn_iconst 73 dX3_passDay_72 rfl ic_1 ?_
  refine rn_iadd 74 dX3_passDay_73 rfl ?_
  refine ro_ptI 77 dX3_passDay_74 rfl f_X3_57 pn_3_9 ft_3_9 rfl rfl hf (fun h13 hf => ?_)
  exact rn_vret dX3_passDay_77 rfl (Or.inl rfl) (ok_some hf :)
theorem TL_X3_eggBits_4 {G : WG} {post : PO} {β : Type} {P : β → Prop} {h : AH} {o0 : Nat} {k : Int32 → Int32 → Option (β)} (hk : ∀ (x1 : Int32) (x2 : Int32), OkA (k x1 x2) P → Rn G M_X3_eggBits (0, 0) 32 [(0, .ref (ad G o0)), (1, .int x1), (2, .int x2)] [] h post) : ∀ (n : Nat) (x1 : Int32) (x2 : Int32), OkA (L_X3_eggBits_4 h o0 k n x1 x2) P → Rn G M_X3_eggBits (0, 0) 4 [(0, .ref (ad G o0)), (1, .int x1), (2, .int x2)] [] h post := by
  intro n
  induction n with
  | zero => intro _ _ hf; exact absurd hf ok_none
  | succ n ih =>
    intro x1 x2 hf
    refine rn_iload_n 5 dX3_eggBits_4 rfl rfl ?_
    refine rn_bipush 7 dX3_eggBits_5 rfl bp_8 ?_
    refine ro_icmp_ge 32 10 dX3_eggBits_7 rfl rfl hf (fun hf => ?_) (fun hf => ?_)
    · exact hk _ _ hf
    · refine rn_aload_n 11 dX3_eggBits_10 rfl rfl ?_
      refine ro_gtR 14 dX3_eggBits_11 rfl f_X3_18 ft_3_2 hf (fun r1 hf => ?_)
      refine rn_iload_n 15 dX3_eggBits_14 rfl rfl ?_
      refine ro_iaload 16 dX3_eggBits_15 rfl hf (fun v2 hf => ?_)
      refine rn_iconst 17 dX3_eggBits_16 rfl ic_m1 ?_
      refine ro_reg (X := (fun q3 : Int32 => Rn G M_X3_eggBits (0, 0) 26 [(0, .ref (ad G o0)), (1, .int q3), (2, .int x2)] [] h post)) hf (fun q3 hf => ?_) (fun hf => ?_)
      · refine rn_iinc (lv' := [(0, .ref (ad G o0)), (1, .int q3), (2, .int (x2 + 1))]) 29 dX3_eggBits_26 rfl (Nat.le_of_ble_eq_true rfl) rfl (inc_1 _) rfl ?_
        refine rn_goto 4 dX3_eggBits_29 rfl ?_
        exact ih _ _ hf
      · refine ro_icmp_eq 26 20 dX3_eggBits_17 rfl rfl hf (fun hf => ?_) (fun hf => ?_)
        · exact (ok_some hf :)
        · refine rn_iload_n 21 dX3_eggBits_20 rfl rfl ?_
          refine rn_iconst 22 dX3_eggBits_21 rfl ic_1 ?_
          refine rn_iload_n 23 dX3_eggBits_22 rfl rfl ?_
          refine rn_ishl 24 dX3_eggBits_23 rfl ?_
          refine rn_ior 25 dX3_eggBits_24 rfl ?_
          refine rn_istore_n (lv' := [(0, .ref (ad G o0)), (1, .int (x1 ||| (1 <<< (x2 &&& 31)))), (2, .int x2)]) 26 dX3_eggBits_25 rfl (Nat.le_of_ble_eq_true rfl) rfl ?_
          exact (ok_some hf :)
theorem T_X3_eggBits {G : WG} {post : PO} {h : AH} {o : Nat} (hf : OkA (F_X3_eggBits h o) (fun q => post (some q) h)) : Rn G M_X3_eggBits (0, 0) 0 [(0, .ref (ad G o))] [] h post := by
  obtain ⟨_, hf⟩ := ok_ck2 hf
  refine rn_iconst 1 dX3_eggBits_0 rfl ic_0 ?_
  refine rn_istore_n (lv' := [(0, .ref (ad G o)), (1, .int 0)]) 2 dX3_eggBits_1 rfl (Nat.le_of_ble_eq_true rfl) rfl ?_
  refine rn_iconst 3 dX3_eggBits_2 rfl ic_0 ?_
  refine rn_istore_n (lv' := [(0, .ref (ad G o)), (1, .int 0), (2, .int 0)]) 4 dX3_eggBits_3 rfl (Nat.le_of_ble_eq_true rfl) rfl ?_
  refine TL_X3_eggBits_4 ?_ FU _ _ hf
  intro y4 y5 hf
  refine rn_iload_n 33 dX3_eggBits_32 rfl rfl ?_
  exact rn_iret .int dX3_eggBits_33 rfl rfl (Or.inl rfl) (ok_some hf :)
theorem T_X4_day {G : WG} {post : PO} {h : AH} {o : Nat} (hf : OkA (F_X4_day h o) (fun q => post (some q.1) q.2)) : Rn G M_X4_day (0, 0) 0 [(0, .ref (ad G o))] [] h post := by
  obtain ⟨_, hf⟩ := ok_ck2 hf
  refine rn_aload_n 1 dX4_day_0 rfl rfl ?_
  refine ro_gtR 4 dX4_day_1 rfl f_X4_29 ft_4_3 hf (fun r1 hf => ?_)
  refine ro_gtI 7 dX4_day_4 rfl f_X4_134 ft_3_9 hf (fun v2 hf => ?_)
  refine rn_sipush 10 dX4_day_7 rfl sp_999 ?_
  refine ro_icmp_lt 16 13 dX4_day_10 rfl rfl hf (fun hf => ?_) (fun hf => ?_)
  · refine rn_aload_n 17 dX4_day_16 rfl rfl ?_
    refine ro_cVv (M' := M_X4_remember) (As := []) (o := o) (st := []) 20 (0, 0) dX4_day_17 rfl l_X4_137 v_X4_remember ⟨Nat.le_of_ble_eq_true rfl, Nat.le_of_ble_eq_true rfl⟩ rfl rfl (Nat.le_of_ble_eq_true rfl) (Nat.le_of_ble_eq_true rfl) ⟨rfl, Nat.le_of_ble_eq_true rfl, Nat.le_of_ble_eq_true rfl⟩ hf (fun X z => ok_ck z) rfl (fun X z => T_X4_remember z) (fun h3 hf => ?_)
    refine rn_aload_n 21 dX4_day_20 rfl rfl ?_
    refine ro_gtR 24 dX4_day_21 rfl f_X4_29 ft_4_3 hf (fun r4 hf => ?_)
    refine rn_aload_n 25 dX4_day_24 rfl rfl ?_
    refine ro_gtR 28 dX4_day_25 rfl f_X4_19 ft_4_1 hf (fun r5 hf => ?_)
    refine ro_cVv (M' := M_X3_passDay) (As := [.ref (ad G r5)]) (o := r4) (st := []) 31 (0, 0) dX4_day_28 rfl l_X4_140 v_X3_passDay ⟨Nat.le_of_ble_eq_true rfl, Nat.le_of_ble_eq_true rfl⟩ rfl rfl (Nat.le_of_ble_eq_true rfl) (Nat.le_of_ble_eq_true rfl) ⟨rfl, Nat.le_of_ble_eq_true rfl, Nat.le_of_ble_eq_true rfl⟩ hf (fun X z => ok_ck z) rfl (fun X z => T_X3_passDay z) (fun h6 hf => ?_)
    refine rn_aload_n 32 dX4_day_31 rfl rfl ?_
    refine ro_gtR 35 dX4_day_32 rfl f_X4_29 ft_4_3 hf (fun r7 hf => ?_)
    refine ro_cVp (M' := M_X3_eggBits) (As := []) (o := r7) (st := []) 38 (0, 0) dX4_day_35 rfl l_X4_143 v_X3_eggBits ⟨Nat.le_of_ble_eq_true rfl, Nat.le_of_ble_eq_true rfl⟩ rfl rfl (Nat.le_of_ble_eq_true rfl) (Nat.le_of_ble_eq_true rfl) ⟨rfl, Nat.le_of_ble_eq_true rfl, Nat.le_of_ble_eq_true rfl⟩ hf (fun X z => ok_ck z) rfl (fun X z => T_X3_eggBits z) (fun v8 hf => ?_)
    exact rn_iret .int dX4_day_38 rfl rfl (Or.inl rfl) (ok_some hf :)
  · refine rn_bipush 15 dX4_day_13 rfl bp_m5 ?_
    exact rn_iret .int dX4_day_15 rfl rfl (Or.inl rfl) (ok_some hf :)
theorem TL_X5_remember_11 {G : WG} {post : PO} {β : Type} {P : β → Prop} {o0 : Nat} {k : AH → Int32 → Option (β)} (hk : ∀ (h : AH) (x1 : Int32), OkA (k h x1) P → Rn G M_X5_remember (0, 0) 39 [(0, .ref (ad G o0)), (1, .int x1)] [] h post) : ∀ (n : Nat) (h : AH) (x1 : Int32), OkA (L_X5_remember_11 o0 k n h x1) P → Rn G M_X5_remember (0, 0) 11 [(0, .ref (ad G o0)), (1, .int x1)] [] h post := by
  intro n
  induction n with
  | zero => intro _ _ hf; exact absurd hf ok_none
  | succ n ih =>
    intro h x1 hf
    refine rn_iload_n 12 dX5_remember_11 rfl rfl ?_
    refine rn_sipush 15 dX5_remember_12 rfl sp_364 ?_
    refine ro_icmp_ge 39 18 dX5_remember_15 rfl rfl hf (fun hf => ?_) (fun hf => ?_)
    · exact hk _ _ hf
    · refine rn_aload_n 19 dX5_remember_18 rfl rfl ?_
      refine ro_gtR 22 dX5_remember_19 rfl f_X5_19 ft_5_3 hf (fun r1 hf => ?_)
      refine rn_iload_n 23 dX5_remember_22 rfl rfl ?_
      refine rn_aload_n 24 dX5_remember_23 rfl rfl ?_
      refine ro_gtR 27 dX5_remember_24 rfl f_X5_19 ft_5_3 hf (fun r2 hf => ?_)
      refine rn_iload_n 28 dX5_remember_27 rfl rfl ?_
      refine rn_bipush 30 dX5_remember_28 rfl bp_52 ?_
      refine rn_iadd 31 dX5_remember_30 rfl ?_
      refine ro_iaload 32 dX5_remember_31 rfl hf (fun v3 hf => ?_)
      refine ro_iastore 33 dX5_remember_32 rfl hf (fun h4 hf => ?_)
      refine rn_iinc (lv' := [(0, .ref (ad G o0)), (1, .int (x1 + 1))]) 36 dX5_remember_33 rfl (Nat.le_of_ble_eq_true rfl) rfl (inc_1 _) rfl ?_
      refine rn_goto 11 dX5_remember_36 rfl ?_
      exact ih _ _ hf
theorem T_X5_remember {G : WG} {post : PO} {h : AH} {o : Nat} (hf : OkA (F_X5_remember h o) (fun q => post none q)) : Rn G M_X5_remember (0, 0) 0 [(0, .ref (ad G o))] [] h post := by
  obtain ⟨_, hf⟩ := ok_ck2 hf
  refine rn_aload_n 1 dX5_remember_0 rfl rfl ?_
  refine ro_gtI 4 dX5_remember_1 rfl f_X5_54 ft_5_4 hf (fun v1 hf => ?_)
  refine rn_bipush 6 dX5_remember_4 rfl bp_8 ?_
  refine ro_reg (X := (fun q2 : AH => Rn G M_X5_remember (0, 0) 49 [(0, .ref (ad G o))] [] q2 post)) hf (fun q2 hf => ?_) (fun hf => ?_)
  · refine rn_aload_n 50 dX5_remember_49 rfl rfl ?_
    refine ro_gtR 53 dX5_remember_50 rfl f_X5_16 ft_5_2 hf (fun r9 hf => ?_)
    refine rn_iconst 54 dX5_remember_53 rfl ic_0 ?_
    refine rn_aload_n 55 dX5_remember_54 rfl rfl ?_
    refine ro_gtR 58 dX5_remember_55 rfl f_X5_19 ft_5_3 hf (fun r10 hf => ?_)
    refine rn_bipush 60 dX5_remember_58 rfl bp_52 ?_
    refine rn_aload_n 61 dX5_remember_60 rfl rfl ?_
    refine ro_gtI 64 dX5_remember_61 rfl f_X5_54 ft_5_4 hf (fun v11 hf => ?_)
    refine rn_imul 65 dX5_remember_64 rfl ?_
    refine rn_bipush 67 dX5_remember_65 rfl bp_52 ?_
    refine ro_cSv (M' := M_X5_copies) (As := [.ref (ad G r9), .int 0, .ref (ad G r10), .int (52 * v11), .int 52]) (st := []) 70 (0, 0) dX5_remember_67 rfl l_X5_141 v_X5_copies ⟨Nat.le_of_ble_eq_true rfl, Nat.le_of_ble_eq_true rfl⟩ rfl rfl (Nat.le_of_ble_eq_true rfl) (Nat.le_of_ble_eq_true rfl) ⟨rfl, Nat.le_of_ble_eq_true rfl, Nat.le_of_ble_eq_true rfl⟩ hf (fun X z => T_X5_copies z) (fun h12 hf => ?_)
    refine rn_aload_n 71 dX5_remember_70 rfl rfl ?_
    refine rn_dup 72 dX5_remember_71 rfl rfl ?_
    refine ro_gtI 75 dX5_remember_72 rfl f_X5_54 ft_5_4 hf (fun v13 hf => ?_)
    refine rn_iconst 76 dX5_remember_75 rfl ic_1 ?_
    refine rn_iadd 77 dX5_remember_76 rfl ?_
    refine ro_ptI 80 dX5_remember_77 rfl f_X5_54 pn_5_4 ft_5_4 rfl rfl hf (fun h14 hf => ?_)
    exact rn_vret dX5_remember_80 rfl (Or.inl rfl) (ok_some hf :)
  · refine ro_icmp_ne 49 9 dX5_remember_6 rfl rfl hf (fun hf => ?_) (fun hf => ?_)
    · exact (ok_some hf :)
    · refine rn_iconst 10 dX5_remember_9 rfl ic_0 ?_
      refine rn_istore_n (lv' := [(0, .ref (ad G o)), (1, .int 0)]) 11 dX5_remember_10 rfl (Nat.le_of_ble_eq_true rfl) rfl ?_
      refine TL_X5_remember_11 ?_ FU _ _ hf
      intro h5 y6 hf
      refine rn_aload_n 40 dX5_remember_39 rfl rfl ?_
      refine rn_dup 41 dX5_remember_40 rfl rfl ?_
      refine ro_gtI 44 dX5_remember_41 rfl f_X5_54 ft_5_4 hf (fun v7 hf => ?_)
      refine rn_iconst 45 dX5_remember_44 rfl ic_1 ?_
      refine rn_isub 46 dX5_remember_45 rfl ?_
      refine ro_ptI 49 dX5_remember_46 rfl f_X5_54 pn_5_4 ft_5_4 rfl rfl hf (fun h8 hf => ?_)
      refine rn_take (lv' := [(0, .ref (ad G o))]) [0] rfl ?_
      exact (ok_some hf :)
theorem TL_X5_bestOf_9 {G : WG} {post : PO} {β : Type} {P : β → Prop} {h : AH} {o0 : Nat} {o1 : Nat} {x2 : Int32} {k : Int32 → Int32 → Int32 → Option (β)} (hk : ∀ (x3 : Int32) (x4 : Int32) (x5 : Int32), OkA (k x3 x4 x5) P → Rn G M_X5_bestOf (0, 0) 63 [(0, .ref (ad G o0)), (1, .ref (ad G o1)), (2, .int x2), (3, .int x3), (4, .int x4), (5, .int x5)] [] h post) : ∀ (n : Nat) (x3 : Int32) (x4 : Int32) (x5 : Int32), OkA (L_X5_bestOf_9 h o0 o1 x2 k n x3 x4 x5) P → Rn G M_X5_bestOf (0, 0) 9 [(0, .ref (ad G o0)), (1, .ref (ad G o1)), (2, .int x2), (3, .int x3), (4, .int x4), (5, .int x5)] [] h post := by
  intro n
  induction n with
  | zero => intro _ _ _ hf; exact absurd hf ok_none
  | succ n ih =>
    intro x3 x4 x5 hf
    refine rn_iload 11 dX5_bestOf_9 rfl rfl ?_
    refine rn_aload_n 12 dX5_bestOf_11 rfl rfl ?_
    refine ro_gtR 15 dX5_bestOf_12 rfl f_X5_7 ft_5_0 hf (fun r1 hf => ?_)
    refine rn_iconst 16 dX5_bestOf_15 rfl ic_0 ?_
    refine ro_iaload 17 dX5_bestOf_16 rfl hf (fun v2 hf => ?_)
    refine ro_icmp_ge 63 20 dX5_bestOf_17 rfl rfl hf (fun hf => ?_) (fun hf => ?_)
    · exact hk _ _ _ hf
    · refine rn_aload_n 21 dX5_bestOf_20 rfl rfl ?_
      refine rn_bipush 23 dX5_bestOf_21 rfl bp_18 ?_
      refine rn_iload 25 dX5_bestOf_23 rfl rfl ?_
      refine rn_iadd 26 dX5_bestOf_25 rfl ?_
      refine ro_iaload 27 dX5_bestOf_26 rfl hf (fun v3 hf => ?_)
      refine rn_iconst 28 dX5_bestOf_27 rfl ic_m1 ?_
      refine ro_reg (X := (fun q4 : Int32 × Int32 => Rn G M_X5_bestOf (0, 0) 57 [(0, .ref (ad G o0)), (1, .ref (ad G o1)), (2, .int x2), (3, .int q4.1), (4, .int q4.2), (5, .int x5)] [] h post)) hf (fun q4 hf => ?_) (fun hf => ?_)
      · refine rn_iinc (lv' := [(0, .ref (ad G o0)), (1, .ref (ad G o1)), (2, .int x2), (3, .int q4.1), (4, .int q4.2), (5, .int (x5 + 1))]) 60 dX5_bestOf_57 rfl (Nat.le_of_ble_eq_true rfl) rfl (inc_1 _) rfl ?_
        refine rn_goto 9 dX5_bestOf_60 rfl ?_
        exact ih _ _ _ hf
      · refine ro_icmp_ne 57 31 dX5_bestOf_28 rfl rfl hf (fun hf => ?_) (fun hf => ?_)
        · exact (ok_some hf :)
        · refine rn_aload_n 32 dX5_bestOf_31 rfl rfl ?_
          refine rn_aload_n 33 dX5_bestOf_32 rfl rfl ?_
          refine rn_iload_n 34 dX5_bestOf_33 rfl rfl ?_
          refine rn_iload 36 dX5_bestOf_34 rfl rfl ?_
          refine ro_cVp (M' := M_X5_likes) (As := [.ref (ad G o1), .int x2, .int x5]) (o := o0) (st := []) 39 (0, 0) dX5_bestOf_36 rfl l_X5_155 v_X5_likes ⟨Nat.le_of_ble_eq_true rfl, Nat.le_of_ble_eq_true rfl⟩ rfl rfl (Nat.le_of_ble_eq_true rfl) (Nat.le_of_ble_eq_true rfl) ⟨rfl, Nat.le_of_ble_eq_true rfl, Nat.le_of_ble_eq_true rfl⟩ hf (fun X z => ok_ck z) rfl (fun X z => T_X5_likes z) (fun v5 hf => ?_)
          refine rn_iload 41 dX5_bestOf_39 rfl rfl ?_
          refine ro_icmp_le 57 44 dX5_bestOf_41 rfl rfl hf (fun hf => ?_) (fun hf => ?_)
          · exact (ok_some hf :)
          · refine rn_aload_n 45 dX5_bestOf_44 rfl rfl ?_
            refine rn_aload_n 46 dX5_bestOf_45 rfl rfl ?_
            refine rn_iload_n 47 dX5_bestOf_46 rfl rfl ?_
            refine rn_iload 49 dX5_bestOf_47 rfl rfl ?_
            refine ro_cVp (M' := M_X5_likes) (As := [.ref (ad G o1), .int x2, .int x5]) (o := o0) (st := []) 52 (0, 0) dX5_bestOf_49 rfl l_X5_155 v_X5_likes ⟨Nat.le_of_ble_eq_true rfl, Nat.le_of_ble_eq_true rfl⟩ rfl rfl (Nat.le_of_ble_eq_true rfl) (Nat.le_of_ble_eq_true rfl) ⟨rfl, Nat.le_of_ble_eq_true rfl, Nat.le_of_ble_eq_true rfl⟩ hf (fun X z => ok_ck z) rfl (fun X z => T_X5_likes z) (fun v6 hf => ?_)
            refine rn_istore (lv' := [(0, .ref (ad G o0)), (1, .ref (ad G o1)), (2, .int x2), (3, .int x3), (4, .int v6), (5, .int x5)]) 54 dX5_bestOf_52 rfl (Nat.le_of_ble_eq_true rfl) rfl ?_
            refine rn_iload 56 dX5_bestOf_54 rfl rfl ?_
            refine rn_istore_n (lv' := [(0, .ref (ad G o0)), (1, .ref (ad G o1)), (2, .int x2), (3, .int x5), (4, .int v6), (5, .int x5)]) 57 dX5_bestOf_56 rfl (Nat.le_of_ble_eq_true rfl) rfl ?_
            exact (ok_some hf :)
theorem T_X5_bestOf {G : WG} {post : PO} {h : AH} {o : Nat} {o1 : Nat} {x2 : Int32} (hf : OkA (F_X5_bestOf h o o1 x2) (fun q => post (some q) h)) : Rn G M_X5_bestOf (0, 0) 0 [(0, .ref (ad G o)), (1, .ref (ad G o1)), (2, .int x2)] [] h post := by
  obtain ⟨_, hf⟩ := ok_ck2 hf
  refine rn_iconst 1 dX5_bestOf_0 rfl ic_m1 ?_
  refine rn_istore_n (lv' := [(0, .ref (ad G o)), (1, .ref (ad G o1)), (2, .int x2), (3, .int (-1))]) 2 dX5_bestOf_1 rfl (Nat.le_of_ble_eq_true rfl) rfl ?_
  refine rn_ldc 4 dX5_bestOf_2 rfl k_X5_154 ?_
  refine rn_istore (lv' := [(0, .ref (ad G o)), (1, .ref (ad G o1)), (2, .int x2), (3, .int (-1)), (4, .int (-1000000))]) 6 dX5_bestOf_4 rfl (Nat.le_of_ble_eq_true rfl) rfl ?_
  refine rn_iconst 7 dX5_bestOf_6 rfl ic_0 ?_
  refine rn_istore (lv' := [(0, .ref (ad G o)), (1, .ref (ad G o1)), (2, .int x2), (3, .int (-1)), (4, .int (-1000000)), (5, .int 0)]) 9 dX5_bestOf_7 rfl (Nat.le_of_ble_eq_true rfl) rfl ?_
  refine TL_X5_bestOf_9 ?_ FU _ _ _ hf
  intro y7 y8 y9 hf
  refine rn_iload_n 64 dX5_bestOf_63 rfl rfl ?_
  exact rn_iret .int dX5_bestOf_64 rfl rfl (Or.inl rfl) (ok_some hf :)
theorem TL_X5_goes_2 {G : WG} {post : PO} {β : Type} {P : β → Prop} {o0 : Nat} {o1 : Nat} {k : AH → Int32 → Option (β)} (hk : ∀ (h : AH) (x2 : Int32), OkA (k h x2) P → Rn G M_X5_goes (0, 0) 28 [(0, .ref (ad G o0)), (1, .ref (ad G o1)), (2, .int x2)] [] h post) : ∀ (n : Nat) (h : AH) (x2 : Int32), OkA (L_X5_goes_2 o0 o1 k n h x2) P → Rn G M_X5_goes (0, 0) 2 [(0, .ref (ad G o0)), (1, .ref (ad G o1)), (2, .int x2)] [] h post := by
  intro n
  induction n with
  | zero => intro _ _ hf; exact absurd hf ok_none
  | succ n ih =>
    intro h x2 hf
    refine rn_iload_n 3 dX5_goes_2 rfl rfl ?_
    refine rn_bipush 5 dX5_goes_3 rfl bp_8 ?_
    refine ro_icmp_ge 28 8 dX5_goes_5 rfl rfl hf (fun hf => ?_) (fun hf => ?_)
    · exact hk _ _ hf
    · refine rn_aload_n 9 dX5_goes_8 rfl rfl ?_
      refine rn_bipush 11 dX5_goes_9 rfl bp_18 ?_
      refine rn_iload_n 12 dX5_goes_11 rfl rfl ?_
      refine rn_iadd 13 dX5_goes_12 rfl ?_
      refine rn_iconst 14 dX5_goes_13 rfl ic_m1 ?_
      refine ro_iastore 15 dX5_goes_14 rfl hf (fun h1 hf => ?_)
      refine rn_aload_n 16 dX5_goes_15 rfl rfl ?_
      refine rn_bipush 18 dX5_goes_16 rfl bp_26 ?_
      refine rn_iload_n 19 dX5_goes_18 rfl rfl ?_
      refine rn_iadd 20 dX5_goes_19 rfl ?_
      refine rn_iconst 21 dX5_goes_20 rfl ic_0 ?_
      refine ro_iastore 22 dX5_goes_21 rfl hf (fun h2 hf => ?_)
      refine rn_iinc (lv' := [(0, .ref (ad G o0)), (1, .ref (ad G o1)), (2, .int (x2 + 1))]) 25 dX5_goes_22 rfl (Nat.le_of_ble_eq_true rfl) rfl (inc_1 _) rfl ?_
      refine rn_goto 2 dX5_goes_25 rfl ?_
      exact ih _ _ hf
theorem TL_X5_goes_46 {G : WG} {post : PO} {β : Type} {P : β → Prop} {o0 : Nat} {o1 : Nat} {x3 : Int32} {k : AH → Int32 → Int32 → Option (β)} (hk : ∀ (h : AH) (x2 : Int32) (x4 : Int32), OkA (k h x2 x4) P → Rn G M_X5_goes (0, 0) 245 [(0, .ref (ad G o0)), (1, .ref (ad G o1)), (2, .int x2), (3, .int x3), (4, .int x4)] [] h post) : ∀ (n : Nat) (h : AH) (x2 : Int32) (x4 : Int32), OkA (L_X5_goes_46 o0 o1 x3 k n h x2 x4) P → Rn G M_X5_goes (0, 0) 46 [(0, .ref (ad G o0)), (1, .ref (ad G o1)), (2, .int x2), (3, .int x3), (4, .int x4)] [] h post := by
  intro n
  induction n with
  | zero => intro _ _ _ hf; exact absurd hf ok_none
  | succ n ih =>
    intro h x2 x4 hf
    refine rn_iload 48 dX5_goes_46 rfl rfl ?_
    refine rn_iconst 49 dX5_goes_48 rfl ic_5 ?_
    refine ro_icmp_ge 245 52 dX5_goes_49 rfl rfl hf (fun hf => ?_) (fun hf => ?_)
    · exact hk _ _ _ hf
    · refine rn_iload 54 dX5_goes_52 rfl rfl ?_
      refine rn_aload_n 55 dX5_goes_54 rfl rfl ?_
      refine ro_gtR 58 dX5_goes_55 rfl f_X5_7 ft_5_0 hf (fun r1 hf => ?_)
      refine rn_bipush 60 dX5_goes_58 rfl bp_25 ?_
      refine ro_iaload 61 dX5_goes_60 rfl hf (fun v2 hf => ?_)
      refine ro_reg (X := (fun q3 : Int32 => Rn G M_X5_goes (0, 0) 92 [(0, .ref (ad G o0)), (1, .ref (ad G o1)), (2, .int x2), (3, .int x3), (4, .int x4)] [.int q3] h post)) hf (fun q3 hf => ?_) (fun hf => ?_)
      · refine rn_istore (lv' := [(0, .ref (ad G o0)), (1, .ref (ad G o1)), (2, .int x2), (3, .int x3), (4, .int x4), (5, .int q3)]) 94 dX5_goes_92 rfl (Nat.le_of_ble_eq_true rfl) rfl ?_
        refine rn_iload 96 dX5_goes_94 rfl rfl ?_
        refine ro_reg (X := (fun q8 : Int32 => Rn G M_X5_goes (0, 0) 110 [(0, .ref (ad G o0)), (1, .ref (ad G o1)), (2, .int x2), (3, .int x3), (4, .int x4), (5, .int q3)] [.int q8] h post)) hf (fun q8 hf => ?_) (fun hf => ?_)
        · refine rn_istore (lv' := [(0, .ref (ad G o0)), (1, .ref (ad G o1)), (2, .int x2), (3, .int x3), (4, .int x4), (5, .int q3), (6, .int q8)]) 112 dX5_goes_110 rfl (Nat.le_of_ble_eq_true rfl) rfl ?_
          refine rn_aload_n 113 dX5_goes_112 rfl rfl ?_
          refine ro_gtR 116 dX5_goes_113 rfl f_X5_41 ft_5_19 hf (fun r10 hf => ?_)
          refine rn_iload 118 dX5_goes_116 rfl rfl ?_
          refine rn_iload 120 dX5_goes_118 rfl rfl ?_
          refine ro_iastore 121 dX5_goes_120 rfl hf (fun h11 hf => ?_)
          refine rn_iload 123 dX5_goes_121 rfl rfl ?_
          refine rn_iconst 124 dX5_goes_123 rfl ic_m1 ?_
          refine ro_reg (X := (fun q12 : AH × Int32 => Rn G M_X5_goes (0, 0) 239 [(0, .ref (ad G o0)), (1, .ref (ad G o1)), (2, .int q12.2), (3, .int x3), (4, .int x4), (5, .int q3), (6, .int q8)] [] q12.1 post)) hf (fun q12 hf => ?_) (fun hf => ?_)
          · refine rn_iinc (lv' := [(0, .ref (ad G o0)), (1, .ref (ad G o1)), (2, .int q12.2), (3, .int x3), (4, .int (x4 + 1)), (5, .int q3), (6, .int q8)]) 242 dX5_goes_239 rfl (Nat.le_of_ble_eq_true rfl) rfl (inc_1 _) rfl ?_
            refine rn_goto 46 dX5_goes_242 rfl ?_
            refine rn_take (lv' := [(0, .ref (ad G o0)), (1, .ref (ad G o1)), (2, .int q12.2), (3, .int x3), (4, .int (x4 + 1))]) [0, 1, 2, 3, 4] rfl ?_
            exact ih _ _ _ hf
          · refine ro_icmp_eq 239 127 dX5_goes_124 rfl rfl hf (fun hf => ?_) (fun hf => ?_)
            · exact (ok_some hf :)
            · refine rn_aload_n 128 dX5_goes_127 rfl rfl ?_
              refine ro_gtR 131 dX5_goes_128 rfl f_X5_7 ft_5_0 hf (fun r13 hf => ?_)
              refine rn_bipush 133 dX5_goes_131 rfl bp_36 ?_
              refine rn_aload_n 134 dX5_goes_133 rfl rfl ?_
              refine rn_iconst 135 dX5_goes_134 rfl ic_0 ?_
              refine ro_iaload 136 dX5_goes_135 rfl hf (fun v14 hf => ?_)
              refine rn_bipush 138 dX5_goes_136 rfl bp_14 ?_
              refine ro_irem 139 dX5_goes_138 rfl hf (fun v15 hf => ?_)
              refine rn_iadd 140 dX5_goes_139 rfl ?_
              refine ro_iaload 141 dX5_goes_140 rfl hf (fun v16 hf => ?_)
              refine rn_aload_n 142 dX5_goes_141 rfl rfl ?_
              refine rn_iconst 143 dX5_goes_142 rfl ic_2 ?_
              refine rn_iload 145 dX5_goes_143 rfl rfl ?_
              refine rn_iadd 146 dX5_goes_145 rfl ?_
              refine ro_iaload 147 dX5_goes_146 rfl hf (fun v17 hf => ?_)
              refine ro_reg (X := (fun q18 : Int32 => Rn G M_X5_goes (0, 0) 155 [(0, .ref (ad G o0)), (1, .ref (ad G o1)), (2, .int x2), (3, .int x3), (4, .int x4), (5, .int q3), (6, .int q8)] [.int q18] h11 post)) hf (fun q18 hf => ?_) (fun hf => ?_)
              · refine rn_istore (lv' := [(0, .ref (ad G o0)), (1, .ref (ad G o1)), (2, .int x2), (3, .int x3), (4, .int x4), (5, .int q3), (6, .int q8), (7, .int q18)]) 157 dX5_goes_155 rfl (Nat.le_of_ble_eq_true rfl) rfl ?_
                refine rn_aload_n 158 dX5_goes_157 rfl rfl ?_
                refine rn_bipush 160 dX5_goes_158 rfl bp_18 ?_
                refine rn_iload 162 dX5_goes_160 rfl rfl ?_
                refine rn_iadd 163 dX5_goes_162 rfl ?_
                refine rn_iload 165 dX5_goes_163 rfl rfl ?_
                refine ro_iastore 166 dX5_goes_165 rfl hf (fun h19 hf => ?_)
                refine rn_aload_n 167 dX5_goes_166 rfl rfl ?_
                refine rn_bipush 169 dX5_goes_167 rfl bp_26 ?_
                refine rn_iload 171 dX5_goes_169 rfl rfl ?_
                refine rn_iadd 172 dX5_goes_171 rfl ?_
                refine rn_iload 174 dX5_goes_172 rfl rfl ?_
                refine ro_reg (X := (fun q20 : Int32 => Rn G M_X5_goes (0, 0) 182 [(0, .ref (ad G o0)), (1, .ref (ad G o1)), (2, .int x2), (3, .int x3), (4, .int x4), (5, .int q3), (6, .int q8), (7, .int q18)] [.int q20, .int (26 + q8), .ref (ad G o1)] h19 post)) hf (fun q20 hf => ?_) (fun hf => ?_)
                · refine ro_iastore 183 dX5_goes_182 rfl hf (fun h21 hf => ?_)
                  refine rn_aload_n 184 dX5_goes_183 rfl rfl ?_
                  refine rn_bipush 186 dX5_goes_184 rfl bp_34 ?_
                  refine rn_iload 188 dX5_goes_186 rfl rfl ?_
                  refine rn_iadd 189 dX5_goes_188 rfl ?_
                  refine rn_iload 191 dX5_goes_189 rfl rfl ?_
                  refine ro_iastore 192 dX5_goes_191 rfl hf (fun h22 hf => ?_)
                  refine rn_aload_n 193 dX5_goes_192 rfl rfl ?_
                  refine rn_bipush 195 dX5_goes_193 rfl bp_39 ?_
                  refine rn_iload 197 dX5_goes_195 rfl rfl ?_
                  refine rn_iadd 198 dX5_goes_197 rfl ?_
                  refine rn_dup2 199 dX5_goes_198 rfl rfl rfl ?_
                  refine ro_iaload 200 dX5_goes_199 rfl hf (fun v23 hf => ?_)
                  refine rn_iload 202 dX5_goes_200 rfl rfl ?_
                  refine ro_reg (X := (fun q24 : Int32 => Rn G M_X5_goes (0, 0) 210 [(0, .ref (ad G o0)), (1, .ref (ad G o1)), (2, .int x2), (3, .int x3), (4, .int x4), (5, .int q3), (6, .int q8), (7, .int q18)] [.int q24, .int v23, .int (39 + x4), .ref (ad G o1)] h22 post)) hf (fun q24 hf => ?_) (fun hf => ?_)
                  · refine rn_iadd 211 dX5_goes_210 rfl ?_
                    refine ro_iastore 212 dX5_goes_211 rfl hf (fun h25 hf => ?_)
                    refine rn_aload_n 213 dX5_goes_212 rfl rfl ?_
                    refine rn_bipush 215 dX5_goes_213 rfl bp_44 ?_
                    refine rn_iload 217 dX5_goes_215 rfl rfl ?_
                    refine rn_iadd 218 dX5_goes_217 rfl ?_
                    refine rn_dup2 219 dX5_goes_218 rfl rfl rfl ?_
                    refine ro_iaload 220 dX5_goes_219 rfl hf (fun v26 hf => ?_)
                    refine rn_iload 222 dX5_goes_220 rfl rfl ?_
                    refine ro_reg (X := (fun q27 : Int32 => Rn G M_X5_goes (0, 0) 230 [(0, .ref (ad G o0)), (1, .ref (ad G o1)), (2, .int x2), (3, .int x3), (4, .int x4), (5, .int q3), (6, .int q8), (7, .int q18)] [.int q27, .int v26, .int (44 + x4), .ref (ad G o1)] h25 post)) hf (fun q27 hf => ?_) (fun hf => ?_)
                    · refine rn_iadd 231 dX5_goes_230 rfl ?_
                      refine ro_iastore 232 dX5_goes_231 rfl hf (fun h28 hf => ?_)
                      refine rn_iload_n 233 dX5_goes_232 rfl rfl ?_
                      refine rn_iconst 234 dX5_goes_233 rfl ic_1 ?_
                      refine rn_iload 236 dX5_goes_234 rfl rfl ?_
                      refine rn_ishl 237 dX5_goes_236 rfl ?_
                      refine rn_ior 238 dX5_goes_237 rfl ?_
                      refine rn_istore_n (lv' := [(0, .ref (ad G o0)), (1, .ref (ad G o1)), (2, .int (x2 ||| (1 <<< (q8 &&& 31)))), (3, .int x3), (4, .int x4), (5, .int q3), (6, .int q8), (7, .int q18)]) 239 dX5_goes_238 rfl (Nat.le_of_ble_eq_true rfl) rfl ?_
                      refine rn_take (lv' := [(0, .ref (ad G o0)), (1, .ref (ad G o1)), (2, .int (x2 ||| (1 <<< (q8 &&& 31)))), (3, .int x3), (4, .int x4), (5, .int q3), (6, .int q8)]) [0, 1, 2, 3, 4, 5, 6] rfl ?_
                      exact (ok_some hf :)
                    · refine ro_if_eq 229 225 dX5_goes_222 rfl rfl hf (fun hf => ?_) (fun hf => ?_)
                      · refine rn_iconst 230 dX5_goes_229 rfl ic_1 ?_
                        exact (ok_some hf :)
                      · refine rn_iconst 226 dX5_goes_225 rfl ic_0 ?_
                        refine rn_goto 230 dX5_goes_226 rfl ?_
                        exact (ok_some hf :)
                  · refine ro_if_eq 209 205 dX5_goes_202 rfl rfl hf (fun hf => ?_) (fun hf => ?_)
                    · refine rn_iconst 210 dX5_goes_209 rfl ic_0 ?_
                      exact (ok_some hf :)
                    · refine rn_iconst 206 dX5_goes_205 rfl ic_1 ?_
                      refine rn_goto 210 dX5_goes_206 rfl ?_
                      exact (ok_some hf :)
                · refine ro_if_eq 181 177 dX5_goes_174 rfl rfl hf (fun hf => ?_) (fun hf => ?_)
                  · refine rn_iconst 182 dX5_goes_181 rfl ic_0 ?_
                    exact (ok_some hf :)
                  · refine rn_iconst 178 dX5_goes_177 rfl ic_1 ?_
                    refine rn_goto 182 dX5_goes_178 rfl ?_
                    exact (ok_some hf :)
              · refine ro_icmp_ne 154 150 dX5_goes_147 rfl rfl hf (fun hf => ?_) (fun hf => ?_)
                · refine rn_iconst 155 dX5_goes_154 rfl ic_0 ?_
                  exact (ok_some hf :)
                · refine rn_iconst 151 dX5_goes_150 rfl ic_1 ?_
                  refine rn_goto 155 dX5_goes_151 rfl ?_
                  exact (ok_some hf :)
        · refine ro_if_eq 109 99 dX5_goes_96 rfl rfl hf (fun hf => ?_) (fun hf => ?_)
          · refine rn_iconst 110 dX5_goes_109 rfl ic_m1 ?_
            exact (ok_some hf :)
          · refine rn_aload_n 100 dX5_goes_99 rfl rfl ?_
            refine rn_aload_n 101 dX5_goes_100 rfl rfl ?_
            refine rn_iload 103 dX5_goes_101 rfl rfl ?_
            refine ro_cVp (M' := M_X5_bestOf) (As := [.ref (ad G o1), .int x4]) (o := o0) (st := []) 106 (0, 0) dX5_goes_103 rfl l_X5_159 v_X5_bestOf ⟨Nat.le_of_ble_eq_true rfl, Nat.le_of_ble_eq_true rfl⟩ rfl rfl (Nat.le_of_ble_eq_true rfl) (Nat.le_of_ble_eq_true rfl) ⟨rfl, Nat.le_of_ble_eq_true rfl, Nat.le_of_ble_eq_true rfl⟩ hf (fun X z => ok_ck z) rfl (fun X z => T_X5_bestOf z) (fun v9 hf => ?_)
            refine rn_goto 110 dX5_goes_106 rfl ?_
            exact (ok_some hf :)
      · refine ro_icmp_ge 91 64 dX5_goes_61 rfl rfl hf (fun hf => ?_) (fun hf => ?_)
        · refine rn_iconst 92 dX5_goes_91 rfl ic_0 ?_
          exact (ok_some hf :)
        · refine rn_iload_n 65 dX5_goes_64 rfl rfl ?_
          refine ro_if_ne 91 68 dX5_goes_65 rfl rfl hf (fun hf => ?_) (fun hf => ?_)
          · refine rn_iconst 92 dX5_goes_91 rfl ic_0 ?_
            exact (ok_some hf :)
          · refine rn_aload_n 69 dX5_goes_68 rfl rfl ?_
            refine ro_gtR 72 dX5_goes_69 rfl f_X5_35 ft_5_17 hf (fun r4 hf => ?_)
            refine rn_iload 74 dX5_goes_72 rfl rfl ?_
            refine ro_iaload 75 dX5_goes_74 rfl hf (fun v5 hf => ?_)
            refine rn_iconst 76 dX5_goes_75 rfl ic_1 ?_
            refine ro_icmp_ne 87 79 dX5_goes_76 rfl rfl hf (fun hf => ?_) (fun hf => ?_)
            · refine rn_iconst 88 dX5_goes_87 rfl ic_1 ?_
              refine rn_goto 92 dX5_goes_88 rfl ?_
              exact (ok_some hf :)
            · refine rn_aload_n 80 dX5_goes_79 rfl rfl ?_
              refine rn_iconst 81 dX5_goes_80 rfl ic_0 ?_
              refine ro_iaload 82 dX5_goes_81 rfl hf (fun v6 hf => ?_)
              refine rn_iconst 83 dX5_goes_82 rfl ic_2 ?_
              refine ro_irem 84 dX5_goes_83 rfl hf (fun v7 hf => ?_)
              refine ro_if_ne 91 87 dX5_goes_84 rfl rfl hf (fun hf => ?_) (fun hf => ?_)
              · refine rn_iconst 92 dX5_goes_91 rfl ic_0 ?_
                exact (ok_some hf :)
              · refine rn_iconst 88 dX5_goes_87 rfl ic_1 ?_
                refine rn_goto 92 dX5_goes_88 rfl ?_
                exact (ok_some hf :)
theorem T_X5_goes {G : WG} {post : PO} {h : AH} {o : Nat} {o1 : Nat} (hf : OkA (F_X5_goes h o o1) (fun q => post (some q.1) q.2)) : Rn G M_X5_goes (0, 0) 0 [(0, .ref (ad G o)), (1, .ref (ad G o1))] [] h post := by
  obtain ⟨_, hf⟩ := ok_ck2 hf
  refine rn_iconst 1 dX5_goes_0 rfl ic_0 ?_
  refine rn_istore_n (lv' := [(0, .ref (ad G o)), (1, .ref (ad G o1)), (2, .int 0)]) 2 dX5_goes_1 rfl (Nat.le_of_ble_eq_true rfl) rfl ?_
  refine TL_X5_goes_2 ?_ FU _ _ hf
  intro h3 y4 hf
  refine rn_iconst 29 dX5_goes_28 rfl ic_0 ?_
  refine rn_istore_n (lv' := [(0, .ref (ad G o)), (1, .ref (ad G o1)), (2, .int 0)]) 30 dX5_goes_29 rfl (Nat.le_of_ble_eq_true rfl) rfl ?_
  refine rn_aload_n 31 dX5_goes_30 rfl rfl ?_
  refine rn_iconst 32 dX5_goes_31 rfl ic_1 ?_
  refine ro_iaload 33 dX5_goes_32 rfl hf (fun v5 hf => ?_)
  refine rn_iconst 34 dX5_goes_33 rfl ic_1 ?_
  refine ro_reg (X := (fun q6 : Int32 => Rn G M_X5_goes (0, 0) 42 [(0, .ref (ad G o)), (1, .ref (ad G o1)), (2, .int 0)] [.int q6] h3 post)) hf (fun q6 hf => ?_) (fun hf => ?_)
  · refine rn_istore_n (lv' := [(0, .ref (ad G o)), (1, .ref (ad G o1)), (2, .int 0), (3, .int q6)]) 43 dX5_goes_42 rfl (Nat.le_of_ble_eq_true rfl) rfl ?_
    refine rn_iconst 44 dX5_goes_43 rfl ic_0 ?_
    refine rn_istore (lv' := [(0, .ref (ad G o)), (1, .ref (ad G o1)), (2, .int 0), (3, .int q6), (4, .int 0)]) 46 dX5_goes_44 rfl (Nat.le_of_ble_eq_true rfl) rfl ?_
    refine TL_X5_goes_46 ?_ FU _ _ _ hf
    intro h29 y30 y31 hf
    refine rn_aload_n 246 dX5_goes_245 rfl rfl ?_
    refine rn_iconst 247 dX5_goes_246 rfl ic_1 ?_
    refine rn_iconst 248 dX5_goes_247 rfl ic_0 ?_
    refine ro_iastore 249 dX5_goes_248 rfl hf (fun h32 hf => ?_)
    refine rn_aload_n 250 dX5_goes_249 rfl rfl ?_
    refine rn_iconst 251 dX5_goes_250 rfl ic_0 ?_
    refine rn_dup2 252 dX5_goes_251 rfl rfl rfl ?_
    refine ro_iaload 253 dX5_goes_252 rfl hf (fun v33 hf => ?_)
    refine rn_iconst 254 dX5_goes_253 rfl ic_1 ?_
    refine rn_iadd 255 dX5_goes_254 rfl ?_
    refine ro_iastore 256 dX5_goes_255 rfl hf (fun h34 hf => ?_)
    refine rn_iload_n 257 dX5_goes_256 rfl rfl ?_
    exact rn_iret .int dX5_goes_257 rfl rfl (Or.inl rfl) (ok_some hf :)
  · refine ro_icmp_ne 41 37 dX5_goes_34 rfl rfl hf (fun hf => ?_) (fun hf => ?_)
    · refine rn_iconst 42 dX5_goes_41 rfl ic_0 ?_
      exact (ok_some hf :)
    · refine rn_iconst 38 dX5_goes_37 rfl ic_1 ?_
      refine rn_goto 42 dX5_goes_38 rfl ?_
      exact (ok_some hf :)
theorem T_X5_day {G : WG} {post : PO} {h : AH} {o : Nat} (hf : OkA (F_X5_day h o) (fun q => post (some q.1) q.2)) : Rn G M_X5_day (0, 0) 0 [(0, .ref (ad G o))] [] h post := by
  obtain ⟨_, hf⟩ := ok_ck2 hf
  refine rn_aload_n 1 dX5_day_0 rfl rfl ?_
  refine ro_gtR 4 dX5_day_1 rfl f_X5_16 ft_5_2 hf (fun r1 hf => ?_)
  refine rn_iconst 5 dX5_day_4 rfl ic_0 ?_
  refine ro_iaload 6 dX5_day_5 rfl hf (fun v2 hf => ?_)
  refine rn_sipush 9 dX5_day_6 rfl sp_999 ?_
  refine ro_icmp_ne 15 12 dX5_day_9 rfl rfl hf (fun hf => ?_) (fun hf => ?_)
  · refine rn_aload_n 16 dX5_day_15 rfl rfl ?_
    refine ro_cVv (M' := M_X5_remember) (As := []) (o := o) (st := []) 19 (0, 0) dX5_day_16 rfl l_X5_176 v_X5_remember ⟨Nat.le_of_ble_eq_true rfl, Nat.le_of_ble_eq_true rfl⟩ rfl rfl (Nat.le_of_ble_eq_true rfl) (Nat.le_of_ble_eq_true rfl) ⟨rfl, Nat.le_of_ble_eq_true rfl, Nat.le_of_ble_eq_true rfl⟩ hf (fun X z => ok_ck z) rfl (fun X z => T_X5_remember z) (fun h3 hf => ?_)
    refine rn_aload_n 20 dX5_day_19 rfl rfl ?_
    refine ro_cVv (M' := M_X5_asTold) (As := []) (o := o) (st := []) 23 (0, 0) dX5_day_20 rfl l_X5_173 v_X5_asTold ⟨Nat.le_of_ble_eq_true rfl, Nat.le_of_ble_eq_true rfl⟩ rfl rfl (Nat.le_of_ble_eq_true rfl) (Nat.le_of_ble_eq_true rfl) ⟨rfl, Nat.le_of_ble_eq_true rfl, Nat.le_of_ble_eq_true rfl⟩ hf (fun X z => ok_ck z) rfl (fun X z => T_X5_asTold z) (fun h4 hf => ?_)
    refine rn_aload_n 24 dX5_day_23 rfl rfl ?_
    refine rn_aload_n 25 dX5_day_24 rfl rfl ?_
    refine ro_gtR 28 dX5_day_25 rfl f_X5_16 ft_5_2 hf (fun r5 hf => ?_)
    refine ro_cVi (M' := M_X5_goes) (As := [.ref (ad G r5)]) (o := o) (st := []) 31 (0, 0) dX5_day_28 rfl l_X5_179 v_X5_goes ⟨Nat.le_of_ble_eq_true rfl, Nat.le_of_ble_eq_true rfl⟩ rfl rfl (Nat.le_of_ble_eq_true rfl) (Nat.le_of_ble_eq_true rfl) ⟨rfl, Nat.le_of_ble_eq_true rfl, Nat.le_of_ble_eq_true rfl⟩ hf (fun X z => ok_ck z) rfl (fun X z => T_X5_goes z) (fun q6 hf => ?_)
    exact rn_iret .int dX5_day_31 rfl rfl (Or.inl rfl) (ok_some hf :)
  · refine rn_bipush 14 dX5_day_12 rfl bp_m5 ?_
    exact rn_iret .int dX5_day_14 rfl rfl (Or.inl rfl) (ok_some hf :)
theorem T_X4_thunder {G : WG} {post : PO} {h : AH} {o : Nat} (hf : OkA (F_X4_thunder h o) (fun q => post (some q.1) q.2)) : Rn G M_X4_thunder (0, 0) 0 [(0, .ref (ad G o))] [] h post := by
  obtain ⟨_, hf⟩ := ok_ck2 hf
  refine rn_aload_n 1 dX4_thunder_0 rfl rfl ?_
  refine ro_cVv (M' := M_X4_remember) (As := []) (o := o) (st := []) 4 (0, 0) dX4_thunder_1 rfl l_X4_137 v_X4_remember ⟨Nat.le_of_ble_eq_true rfl, Nat.le_of_ble_eq_true rfl⟩ rfl rfl (Nat.le_of_ble_eq_true rfl) (Nat.le_of_ble_eq_true rfl) ⟨rfl, Nat.le_of_ble_eq_true rfl, Nat.le_of_ble_eq_true rfl⟩ hf (fun X z => ok_ck z) rfl (fun X z => T_X4_remember z) (fun h1 hf => ?_)
  refine rn_aload_n 5 dX4_thunder_4 rfl rfl ?_
  refine ro_gtR 8 dX4_thunder_5 rfl f_X4_29 ft_4_3 hf (fun r2 hf => ?_)
  refine ro_gtI 11 dX4_thunder_8 rfl f_X4_147 ft_3_10 hf (fun v3 hf => ?_)
  refine ro_reg (X := (fun q4 : Int32 => Rn G M_X4_thunder (0, 0) 19 [(0, .ref (ad G o))] [.int q4] h1 post)) hf (fun q4 hf => ?_) (fun hf => ?_)
  · refine rn_istore_n (lv' := [(0, .ref (ad G o)), (1, .int q4)]) 20 dX4_thunder_19 rfl (Nat.le_of_ble_eq_true rfl) rfl ?_
    refine rn_aload_n 21 dX4_thunder_20 rfl rfl ?_
    refine ro_gtR 24 dX4_thunder_21 rfl f_X4_29 ft_4_3 hf (fun r5 hf => ?_)
    refine rn_iconst 25 dX4_thunder_24 rfl ic_1 ?_
    refine ro_ptZ 28 dX4_thunder_25 rfl f_X4_147 pn_3_10 ft_3_10 tz_3_10 hf (fun h6 hf => ?_)
    refine rn_iload_n 29 dX4_thunder_28 rfl rfl ?_
    exact rn_iret .int dX4_thunder_29 rfl rfl (Or.inl rfl) (ok_some hf :)
  · refine ro_if_eq 18 14 dX4_thunder_11 rfl rfl hf (fun hf => ?_) (fun hf => ?_)
    · refine rn_iconst 19 dX4_thunder_18 rfl ic_0 ?_
      exact (ok_some hf :)
    · refine rn_iconst 15 dX4_thunder_14 rfl ic_1 ?_
      refine rn_goto 19 dX4_thunder_15 rfl ?_
      exact (ok_some hf :)
theorem T_X5_thunder {G : WG} {post : PO} {h : AH} {o : Nat} (hf : OkA (F_X5_thunder h o) (fun q => post (some q.1) q.2)) : Rn G M_X5_thunder (0, 0) 0 [(0, .ref (ad G o))] [] h post := by
  obtain ⟨_, hf⟩ := ok_ck2 hf
  refine rn_aload_n 1 dX5_thunder_0 rfl rfl ?_
  refine ro_cVv (M' := M_X5_remember) (As := []) (o := o) (st := []) 4 (0, 0) dX5_thunder_1 rfl l_X5_176 v_X5_remember ⟨Nat.le_of_ble_eq_true rfl, Nat.le_of_ble_eq_true rfl⟩ rfl rfl (Nat.le_of_ble_eq_true rfl) (Nat.le_of_ble_eq_true rfl) ⟨rfl, Nat.le_of_ble_eq_true rfl, Nat.le_of_ble_eq_true rfl⟩ hf (fun X z => ok_ck z) rfl (fun X z => T_X5_remember z) (fun h1 hf => ?_)
  refine rn_aload_n 5 dX5_thunder_4 rfl rfl ?_
  refine ro_gtR 8 dX5_thunder_5 rfl f_X5_16 ft_5_2 hf (fun r2 hf => ?_)
  refine rn_iconst 9 dX5_thunder_8 rfl ic_1 ?_
  refine ro_iaload 10 dX5_thunder_9 rfl hf (fun v3 hf => ?_)
  refine rn_istore_n (lv' := [(0, .ref (ad G o)), (1, .int v3)]) 11 dX5_thunder_10 rfl (Nat.le_of_ble_eq_true rfl) rfl ?_
  refine rn_aload_n 12 dX5_thunder_11 rfl rfl ?_
  refine ro_gtR 15 dX5_thunder_12 rfl f_X5_16 ft_5_2 hf (fun r4 hf => ?_)
  refine rn_iconst 16 dX5_thunder_15 rfl ic_1 ?_
  refine rn_iconst 17 dX5_thunder_16 rfl ic_1 ?_
  refine ro_iastore 18 dX5_thunder_17 rfl hf (fun h5 hf => ?_)
  refine rn_iload_n 19 dX5_thunder_18 rfl rfl ?_
  exact rn_iret .int dX5_thunder_19 rfl rfl (Or.inl rfl) (ok_some hf :)
