theorem T_X4_straw {G : WG} {post : PO} {h : AH} {o : Nat} {x1 : Int32} {x2 : Int32} (hf : OkA (F_X4_straw h o x1 x2) (fun q => post (some q.1) q.2)) : Rn G M_X4_straw (0, 0) 0 [(0, .ref (ad G o)), (1, .int x1), (2, .int x2)] [] h post := by
  obtain ⟨_, hf⟩ := ok_ck2 hf
  refine rn_aload_n 1 dX4_straw_0 rfl rfl ?_
  refine rn_iload_n 2 dX4_straw_1 rfl rfl ?_
  refine ro_cVp (M' := M_X4_isPlace) (As := [.int x1]) (o := o) (st := []) 5 (0, 0) dX4_straw_2 rfl l_X4_86 v_X4_isPlace ⟨Nat.le_of_ble_eq_true rfl, Nat.le_of_ble_eq_true rfl⟩ rfl rfl (Nat.le_of_ble_eq_true rfl) (Nat.le_of_ble_eq_true rfl) ⟨rfl, Nat.le_of_ble_eq_true rfl, Nat.le_of_ble_eq_true rfl⟩ hf (fun X z => ok_ck z) rfl (fun X z => T_X4_isPlace z) (fun v1 hf => ?_)
  refine ro_if_ne 11 8 dX4_straw_5 rfl rfl hf (fun hf => ?_) (fun hf => ?_)
  · refine rn_iload_n 12 dX4_straw_11 rfl rfl ?_
    refine ro_if_lt 21 15 dX4_straw_12 rfl rfl hf (fun hf => ?_) (fun hf => ?_)
    · refine rn_bipush 23 dX4_straw_21 rfl bp_m3 ?_
      exact rn_iret .int dX4_straw_23 rfl rfl (Or.inl rfl) (ok_some hf :)
    · refine rn_iload_n 16 dX4_straw_15 rfl rfl ?_
      refine rn_bipush 18 dX4_straw_16 rfl bp_9 ?_
      refine ro_icmp_le 24 21 dX4_straw_18 rfl rfl hf (fun hf => ?_) (fun hf => ?_)
      · refine rn_aload_n 25 dX4_straw_24 rfl rfl ?_
        refine ro_cVv (M' := M_X4_remember) (As := []) (o := o) (st := []) 28 (0, 0) dX4_straw_25 rfl l_X4_137 v_X4_remember ⟨Nat.le_of_ble_eq_true rfl, Nat.le_of_ble_eq_true rfl⟩ rfl rfl (Nat.le_of_ble_eq_true rfl) (Nat.le_of_ble_eq_true rfl) ⟨rfl, Nat.le_of_ble_eq_true rfl, Nat.le_of_ble_eq_true rfl⟩ hf (fun X z => ok_ck z) rfl (fun X z => T_X4_remember z) (fun h2 hf => ?_)
        refine rn_aload_n 29 dX4_straw_28 rfl rfl ?_
        refine ro_gtR 32 dX4_straw_29 rfl f_X4_29 ft_4_3 hf (fun r3 hf => ?_)
        refine ro_gtR 35 dX4_straw_32 rfl f_X4_93 ft_3_1 hf (fun r4 hf => ?_)
        refine rn_iload_n 36 dX4_straw_35 rfl rfl ?_
        refine ro_iaload 37 dX4_straw_36 rfl hf (fun v5 hf => ?_)
        refine rn_istore_n (lv' := [(0, .ref (ad G o)), (1, .int x1), (2, .int x2), (3, .int v5)]) 38 dX4_straw_37 rfl (Nat.le_of_ble_eq_true rfl) rfl ?_
        refine rn_aload_n 39 dX4_straw_38 rfl rfl ?_
        refine ro_gtR 42 dX4_straw_39 rfl f_X4_29 ft_4_3 hf (fun r6 hf => ?_)
        refine ro_gtR 45 dX4_straw_42 rfl f_X4_93 ft_3_1 hf (fun r7 hf => ?_)
        refine rn_iload_n 46 dX4_straw_45 rfl rfl ?_
        refine rn_iload_n 47 dX4_straw_46 rfl rfl ?_
        refine ro_iastore 48 dX4_straw_47 rfl hf (fun h8 hf => ?_)
        refine rn_iload_n 49 dX4_straw_48 rfl rfl ?_
        exact rn_iret .int dX4_straw_49 rfl rfl (Or.inl rfl) (ok_some hf :)
      · refine rn_bipush 23 dX4_straw_21 rfl bp_m3 ?_
        exact rn_iret .int dX4_straw_23 rfl rfl (Or.inl rfl) (ok_some hf :)
  · refine rn_bipush 10 dX4_straw_8 rfl bp_m2 ?_
    exact rn_iret .int dX4_straw_10 rfl rfl (Or.inl rfl) (ok_some hf :)
theorem T_X5_straw {G : WG} {post : PO} {h : AH} {o : Nat} {x1 : Int32} {x2 : Int32} (hf : OkA (F_X5_straw h o x1 x2) (fun q => post (some q.1) q.2)) : Rn G M_X5_straw (0, 0) 0 [(0, .ref (ad G o)), (1, .int x1), (2, .int x2)] [] h post := by
  obtain ⟨_, hf⟩ := ok_ck2 hf
  refine rn_aload_n 1 dX5_straw_0 rfl rfl ?_
  refine rn_iload_n 2 dX5_straw_1 rfl rfl ?_
  refine ro_cVp (M' := M_X5_isPlace) (As := [.int x1]) (o := o) (st := []) 5 (0, 0) dX5_straw_2 rfl l_X5_163 v_X5_isPlace ⟨Nat.le_of_ble_eq_true rfl, Nat.le_of_ble_eq_true rfl⟩ rfl rfl (Nat.le_of_ble_eq_true rfl) (Nat.le_of_ble_eq_true rfl) ⟨rfl, Nat.le_of_ble_eq_true rfl, Nat.le_of_ble_eq_true rfl⟩ hf (fun X z => ok_ck z) rfl (fun X z => T_X5_isPlace z) (fun v1 hf => ?_)
  refine ro_if_ne 11 8 dX5_straw_5 rfl rfl hf (fun hf => ?_) (fun hf => ?_)
  · refine rn_iload_n 12 dX5_straw_11 rfl rfl ?_
    refine rn_i2l 13 dX5_straw_12 rfl ?_
    refine rn_lconst 14 dX5_straw_13 rfl lc_0 ?_
    refine rn_ldc2 17 dX5_straw_14 rfl k_X5_183 ?_
    refine ro_cSp (M' := M_X5_in) (As := [.long x2.toInt64, .long 0, .long 9]) (st := []) 20 (0, 0) dX5_straw_17 rfl l_X5_63 v_X5_in ⟨Nat.le_of_ble_eq_true rfl, Nat.le_of_ble_eq_true rfl⟩ rfl rfl (Nat.le_of_ble_eq_true rfl) (Nat.le_of_ble_eq_true rfl) ⟨rfl, Nat.le_of_ble_eq_true rfl, Nat.le_of_ble_eq_true rfl⟩ hf (fun X z => T_X5_in z) (fun v2 hf => ?_)
    refine ro_if_ne 26 23 dX5_straw_20 rfl rfl hf (fun hf => ?_) (fun hf => ?_)
    · refine rn_aload_n 27 dX5_straw_26 rfl rfl ?_
      refine ro_cVv (M' := M_X5_remember) (As := []) (o := o) (st := []) 30 (0, 0) dX5_straw_27 rfl l_X5_176 v_X5_remember ⟨Nat.le_of_ble_eq_true rfl, Nat.le_of_ble_eq_true rfl⟩ rfl rfl (Nat.le_of_ble_eq_true rfl) (Nat.le_of_ble_eq_true rfl) ⟨rfl, Nat.le_of_ble_eq_true rfl, Nat.le_of_ble_eq_true rfl⟩ hf (fun X z => ok_ck z) rfl (fun X z => T_X5_remember z) (fun h3 hf => ?_)
      refine rn_aload_n 31 dX5_straw_30 rfl rfl ?_
      refine ro_gtR 34 dX5_straw_31 rfl f_X5_16 ft_5_2 hf (fun r4 hf => ?_)
      refine rn_bipush 36 dX5_straw_34 rfl bp_10 ?_
      refine rn_iload_n 37 dX5_straw_36 rfl rfl ?_
      refine rn_iadd 38 dX5_straw_37 rfl ?_
      refine ro_iaload 39 dX5_straw_38 rfl hf (fun v5 hf => ?_)
      refine rn_istore_n (lv' := [(0, .ref (ad G o)), (1, .int x1), (2, .int x2), (3, .int v5)]) 40 dX5_straw_39 rfl (Nat.le_of_ble_eq_true rfl) rfl ?_
      refine rn_aload_n 41 dX5_straw_40 rfl rfl ?_
      refine ro_gtR 44 dX5_straw_41 rfl f_X5_16 ft_5_2 hf (fun r6 hf => ?_)
      refine rn_bipush 46 dX5_straw_44 rfl bp_10 ?_
      refine rn_iload_n 47 dX5_straw_46 rfl rfl ?_
      refine rn_iadd 48 dX5_straw_47 rfl ?_
      refine rn_iload_n 49 dX5_straw_48 rfl rfl ?_
      refine ro_iastore 50 dX5_straw_49 rfl hf (fun h7 hf => ?_)
      refine rn_iload_n 51 dX5_straw_50 rfl rfl ?_
      exact rn_iret .int dX5_straw_51 rfl rfl (Or.inl rfl) (ok_some hf :)
    · refine rn_bipush 25 dX5_straw_23 rfl bp_m3 ?_
      exact rn_iret .int dX5_straw_25 rfl rfl (Or.inl rfl) (ok_some hf :)
  · refine rn_bipush 10 dX5_straw_8 rfl bp_m2 ?_
    exact rn_iret .int dX5_straw_10 rfl rfl (Or.inl rfl) (ok_some hf :)
theorem T_X4_move {G : WG} {post : PO} {h : AH} {o : Nat} {x1 : Int32} {x2 : Int32} (hf : OkA (F_X4_move h o x1 x2) (fun q => post (some q.1) q.2)) : Rn G M_X4_move (0, 0) 0 [(0, .ref (ad G o)), (1, .int x1), (2, .int x2)] [] h post := by
  obtain ⟨_, hf⟩ := ok_ck2 hf
  refine rn_aload_n 1 dX4_move_0 rfl rfl ?_
  refine rn_iload_n 2 dX4_move_1 rfl rfl ?_
  refine ro_cVp (M' := M_X4_isPlace) (As := [.int x1]) (o := o) (st := []) 5 (0, 0) dX4_move_2 rfl l_X4_86 v_X4_isPlace ⟨Nat.le_of_ble_eq_true rfl, Nat.le_of_ble_eq_true rfl⟩ rfl rfl (Nat.le_of_ble_eq_true rfl) (Nat.le_of_ble_eq_true rfl) ⟨rfl, Nat.le_of_ble_eq_true rfl, Nat.le_of_ble_eq_true rfl⟩ hf (fun X z => ok_ck z) rfl (fun X z => T_X4_isPlace z) (fun v1 hf => ?_)
  refine ro_if_eq 21 8 dX4_move_5 rfl rfl hf (fun hf => ?_) (fun hf => ?_)
  · refine rn_bipush 23 dX4_move_21 rfl bp_m2 ?_
    exact rn_iret .int dX4_move_23 rfl rfl (Or.inl rfl) (ok_some hf :)
  · refine rn_aload_n 9 dX4_move_8 rfl rfl ?_
    refine rn_iload_n 10 dX4_move_9 rfl rfl ?_
    refine ro_cVp (M' := M_X4_isPlace) (As := [.int x2]) (o := o) (st := []) 13 (0, 0) dX4_move_10 rfl l_X4_86 v_X4_isPlace ⟨Nat.le_of_ble_eq_true rfl, Nat.le_of_ble_eq_true rfl⟩ rfl rfl (Nat.le_of_ble_eq_true rfl) (Nat.le_of_ble_eq_true rfl) ⟨rfl, Nat.le_of_ble_eq_true rfl, Nat.le_of_ble_eq_true rfl⟩ hf (fun X z => ok_ck z) rfl (fun X z => T_X4_isPlace z) (fun v2 hf => ?_)
    refine ro_if_eq 21 16 dX4_move_13 rfl rfl hf (fun hf => ?_) (fun hf => ?_)
    · refine rn_bipush 23 dX4_move_21 rfl bp_m2 ?_
      exact rn_iret .int dX4_move_23 rfl rfl (Or.inl rfl) (ok_some hf :)
    · refine rn_iload_n 17 dX4_move_16 rfl rfl ?_
      refine rn_iload_n 18 dX4_move_17 rfl rfl ?_
      refine ro_icmp_ne 24 21 dX4_move_18 rfl rfl hf (fun hf => ?_) (fun hf => ?_)
      · refine rn_aload_n 25 dX4_move_24 rfl rfl ?_
        refine ro_cVv (M' := M_X4_remember) (As := []) (o := o) (st := []) 28 (0, 0) dX4_move_25 rfl l_X4_137 v_X4_remember ⟨Nat.le_of_ble_eq_true rfl, Nat.le_of_ble_eq_true rfl⟩ rfl rfl (Nat.le_of_ble_eq_true rfl) (Nat.le_of_ble_eq_true rfl) ⟨rfl, Nat.le_of_ble_eq_true rfl, Nat.le_of_ble_eq_true rfl⟩ hf (fun X z => ok_ck z) rfl (fun X z => T_X4_remember z) (fun h3 hf => ?_)
        refine rn_aload_n 29 dX4_move_28 rfl rfl ?_
        refine ro_gtR 32 dX4_move_29 rfl f_X4_29 ft_4_3 hf (fun r4 hf => ?_)
        refine ro_gtR 35 dX4_move_32 rfl f_X4_90 ft_3_0 hf (fun r5 hf => ?_)
        refine rn_iload_n 36 dX4_move_35 rfl rfl ?_
        refine ro_iaload 37 dX4_move_36 rfl hf (fun v6 hf => ?_)
        refine rn_istore_n (lv' := [(0, .ref (ad G o)), (1, .int x1), (2, .int x2), (3, .int v6)]) 38 dX4_move_37 rfl (Nat.le_of_ble_eq_true rfl) rfl ?_
        refine rn_aload_n 39 dX4_move_38 rfl rfl ?_
        refine ro_gtR 42 dX4_move_39 rfl f_X4_29 ft_4_3 hf (fun r7 hf => ?_)
        refine ro_gtR 45 dX4_move_42 rfl f_X4_90 ft_3_0 hf (fun r8 hf => ?_)
        refine rn_iload_n 46 dX4_move_45 rfl rfl ?_
        refine rn_aload_n 47 dX4_move_46 rfl rfl ?_
        refine ro_gtR 50 dX4_move_47 rfl f_X4_29 ft_4_3 hf (fun r9 hf => ?_)
        refine ro_gtR 53 dX4_move_50 rfl f_X4_90 ft_3_0 hf (fun r10 hf => ?_)
        refine rn_iload_n 54 dX4_move_53 rfl rfl ?_
        refine ro_iaload 55 dX4_move_54 rfl hf (fun v11 hf => ?_)
        refine ro_iastore 56 dX4_move_55 rfl hf (fun h12 hf => ?_)
        refine rn_aload_n 57 dX4_move_56 rfl rfl ?_
        refine ro_gtR 60 dX4_move_57 rfl f_X4_29 ft_4_3 hf (fun r13 hf => ?_)
        refine ro_gtR 63 dX4_move_60 rfl f_X4_90 ft_3_0 hf (fun r14 hf => ?_)
        refine rn_iload_n 64 dX4_move_63 rfl rfl ?_
        refine rn_iload_n 65 dX4_move_64 rfl rfl ?_
        refine ro_iastore 66 dX4_move_65 rfl hf (fun h15 hf => ?_)
        refine rn_aload_n 67 dX4_move_66 rfl rfl ?_
        refine ro_gtR 70 dX4_move_67 rfl f_X4_29 ft_4_3 hf (fun r16 hf => ?_)
        refine ro_gtR 73 dX4_move_70 rfl f_X4_90 ft_3_0 hf (fun r17 hf => ?_)
        refine rn_iload_n 74 dX4_move_73 rfl rfl ?_
        refine ro_iaload 75 dX4_move_74 rfl hf (fun v18 hf => ?_)
        exact rn_iret .int dX4_move_75 rfl rfl (Or.inl rfl) (ok_some hf :)
      · refine rn_bipush 23 dX4_move_21 rfl bp_m2 ?_
        exact rn_iret .int dX4_move_23 rfl rfl (Or.inl rfl) (ok_some hf :)
theorem T_X5_moves {G : WG} {post : PO} {h : AH} {o0 : Nat} {x1 : Int32} {x2 : Int32} (hf : OkA (F_X5_moves h o0 x1 x2) (fun q => post none q)) : Rn G M_X5_moves (0, 0) 0 [(0, .ref (ad G o0)), (1, .int x1), (2, .int x2)] [] h post := by
  refine rn_aload_n 1 dX5_moves_0 rfl rfl ?_
  refine rn_iconst 2 dX5_moves_1 rfl ic_2 ?_
  refine rn_iload_n 3 dX5_moves_2 rfl rfl ?_
  refine rn_iadd 4 dX5_moves_3 rfl ?_
  refine ro_iaload 5 dX5_moves_4 rfl hf (fun v1 hf => ?_)
  refine rn_istore_n (lv' := [(0, .ref (ad G o0)), (1, .int x1), (2, .int x2), (3, .int v1)]) 6 dX5_moves_5 rfl (Nat.le_of_ble_eq_true rfl) rfl ?_
  refine rn_aload_n 7 dX5_moves_6 rfl rfl ?_
  refine rn_iconst 8 dX5_moves_7 rfl ic_2 ?_
  refine rn_iload_n 9 dX5_moves_8 rfl rfl ?_
  refine rn_iadd 10 dX5_moves_9 rfl ?_
  refine rn_aload_n 11 dX5_moves_10 rfl rfl ?_
  refine rn_iconst 12 dX5_moves_11 rfl ic_2 ?_
  refine rn_iload_n 13 dX5_moves_12 rfl rfl ?_
  refine rn_iadd 14 dX5_moves_13 rfl ?_
  refine ro_iaload 15 dX5_moves_14 rfl hf (fun v2 hf => ?_)
  refine ro_iastore 16 dX5_moves_15 rfl hf (fun h3 hf => ?_)
  refine rn_aload_n 17 dX5_moves_16 rfl rfl ?_
  refine rn_iconst 18 dX5_moves_17 rfl ic_2 ?_
  refine rn_iload_n 19 dX5_moves_18 rfl rfl ?_
  refine rn_iadd 20 dX5_moves_19 rfl ?_
  refine rn_iload_n 21 dX5_moves_20 rfl rfl ?_
  refine ro_iastore 22 dX5_moves_21 rfl hf (fun h4 hf => ?_)
  exact rn_vret dX5_moves_22 rfl (Or.inl rfl) (ok_some hf :)
theorem T_X5_move {G : WG} {post : PO} {h : AH} {o : Nat} {x1 : Int32} {x2 : Int32} (hf : OkA (F_X5_move h o x1 x2) (fun q => post (some q.1) q.2)) : Rn G M_X5_move (0, 0) 0 [(0, .ref (ad G o)), (1, .int x1), (2, .int x2)] [] h post := by
  obtain ⟨_, hf⟩ := ok_ck2 hf
  refine rn_aload_n 1 dX5_move_0 rfl rfl ?_
  refine rn_iload_n 2 dX5_move_1 rfl rfl ?_
  refine ro_cVp (M' := M_X5_isPlace) (As := [.int x1]) (o := o) (st := []) 5 (0, 0) dX5_move_2 rfl l_X5_163 v_X5_isPlace ⟨Nat.le_of_ble_eq_true rfl, Nat.le_of_ble_eq_true rfl⟩ rfl rfl (Nat.le_of_ble_eq_true rfl) (Nat.le_of_ble_eq_true rfl) ⟨rfl, Nat.le_of_ble_eq_true rfl, Nat.le_of_ble_eq_true rfl⟩ hf (fun X z => ok_ck z) rfl (fun X z => T_X5_isPlace z) (fun v1 hf => ?_)
  refine ro_if_eq 21 8 dX5_move_5 rfl rfl hf (fun hf => ?_) (fun hf => ?_)
  · refine rn_bipush 23 dX5_move_21 rfl bp_m2 ?_
    exact rn_iret .int dX5_move_23 rfl rfl (Or.inl rfl) (ok_some hf :)
  · refine rn_aload_n 9 dX5_move_8 rfl rfl ?_
    refine rn_iload_n 10 dX5_move_9 rfl rfl ?_
    refine ro_cVp (M' := M_X5_isPlace) (As := [.int x2]) (o := o) (st := []) 13 (0, 0) dX5_move_10 rfl l_X5_163 v_X5_isPlace ⟨Nat.le_of_ble_eq_true rfl, Nat.le_of_ble_eq_true rfl⟩ rfl rfl (Nat.le_of_ble_eq_true rfl) (Nat.le_of_ble_eq_true rfl) ⟨rfl, Nat.le_of_ble_eq_true rfl, Nat.le_of_ble_eq_true rfl⟩ hf (fun X z => ok_ck z) rfl (fun X z => T_X5_isPlace z) (fun v2 hf => ?_)
    refine ro_if_eq 21 16 dX5_move_13 rfl rfl hf (fun hf => ?_) (fun hf => ?_)
    · refine rn_bipush 23 dX5_move_21 rfl bp_m2 ?_
      exact rn_iret .int dX5_move_23 rfl rfl (Or.inl rfl) (ok_some hf :)
    · refine rn_iload_n 17 dX5_move_16 rfl rfl ?_
      refine rn_iload_n 18 dX5_move_17 rfl rfl ?_
      refine ro_icmp_ne 24 21 dX5_move_18 rfl rfl hf (fun hf => ?_) (fun hf => ?_)
      · refine rn_aload_n 25 dX5_move_24 rfl rfl ?_
        refine ro_cVv (M' := M_X5_remember) (As := []) (o := o) (st := []) 28 (0, 0) dX5_move_25 rfl l_X5_176 v_X5_remember ⟨Nat.le_of_ble_eq_true rfl, Nat.le_of_ble_eq_true rfl⟩ rfl rfl (Nat.le_of_ble_eq_true rfl) (Nat.le_of_ble_eq_true rfl) ⟨rfl, Nat.le_of_ble_eq_true rfl, Nat.le_of_ble_eq_true rfl⟩ hf (fun X z => ok_ck z) rfl (fun X z => T_X5_remember z) (fun h3 hf => ?_)
        refine rn_aload_n 29 dX5_move_28 rfl rfl ?_
        refine ro_gtR 32 dX5_move_29 rfl f_X5_16 ft_5_2 hf (fun r4 hf => ?_)
        refine rn_iload_n 33 dX5_move_32 rfl rfl ?_
        refine rn_iload_n 34 dX5_move_33 rfl rfl ?_
        refine ro_cSv (M' := M_X5_moves) (As := [.ref (ad G r4), .int x1, .int x2]) (st := []) 37 (0, 0) dX5_move_34 rfl l_X5_185 v_X5_moves ⟨Nat.le_of_ble_eq_true rfl, Nat.le_of_ble_eq_true rfl⟩ rfl rfl (Nat.le_of_ble_eq_true rfl) (Nat.le_of_ble_eq_true rfl) ⟨rfl, Nat.le_of_ble_eq_true rfl, Nat.le_of_ble_eq_true rfl⟩ hf (fun X z => T_X5_moves z) (fun h5 hf => ?_)
        refine rn_aload_n 38 dX5_move_37 rfl rfl ?_
        refine ro_gtR 41 dX5_move_38 rfl f_X5_16 ft_5_2 hf (fun r6 hf => ?_)
        refine rn_iconst 42 dX5_move_41 rfl ic_2 ?_
        refine rn_iload_n 43 dX5_move_42 rfl rfl ?_
        refine rn_iadd 44 dX5_move_43 rfl ?_
        refine ro_iaload 45 dX5_move_44 rfl hf (fun v7 hf => ?_)
        exact rn_iret .int dX5_move_45 rfl rfl (Or.inl rfl) (ok_some hf :)
      · refine rn_bipush 23 dX5_move_21 rfl bp_m2 ?_
        exact rn_iret .int dX5_move_23 rfl rfl (Or.inl rfl) (ok_some hf :)
theorem T_X4_eat {G : WG} {post : PO} {h : AH} {o : Nat} {x1 : Int32} (hf : OkA (F_X4_eat h o x1) (fun q => post (some q.1) q.2)) : Rn G M_X4_eat (0, 0) 0 [(0, .ref (ad G o)), (1, .int x1)] [] h post := by
  obtain ⟨_, hf⟩ := ok_ck2 hf
  refine rn_aload_n 1 dX4_eat_0 rfl rfl ?_
  refine rn_iload_n 2 dX4_eat_1 rfl rfl ?_
  refine ro_cVp (M' := M_X4_isPlace) (As := [.int x1]) (o := o) (st := []) 5 (0, 0) dX4_eat_2 rfl l_X4_86 v_X4_isPlace ⟨Nat.le_of_ble_eq_true rfl, Nat.le_of_ble_eq_true rfl⟩ rfl rfl (Nat.le_of_ble_eq_true rfl) (Nat.le_of_ble_eq_true rfl) ⟨rfl, Nat.le_of_ble_eq_true rfl, Nat.le_of_ble_eq_true rfl⟩ hf (fun X z => ok_ck z) rfl (fun X z => T_X4_isPlace z) (fun v1 hf => ?_)
  refine ro_if_ne 11 8 dX4_eat_5 rfl rfl hf (fun hf => ?_) (fun hf => ?_)
  · refine rn_aload_n 12 dX4_eat_11 rfl rfl ?_
    refine ro_gtR 15 dX4_eat_12 rfl f_X4_29 ft_4_3 hf (fun r2 hf => ?_)
    refine ro_gtR 18 dX4_eat_15 rfl f_X4_99 ft_3_2 hf (fun r3 hf => ?_)
    refine rn_iload_n 19 dX4_eat_18 rfl rfl ?_
    refine ro_iaload 20 dX4_eat_19 rfl hf (fun v4 hf => ?_)
    refine rn_iconst 21 dX4_eat_20 rfl ic_m1 ?_
    refine ro_icmp_ne 27 24 dX4_eat_21 rfl rfl hf (fun hf => ?_) (fun hf => ?_)
    · refine rn_aload_n 28 dX4_eat_27 rfl rfl ?_
      refine ro_cVv (M' := M_X4_remember) (As := []) (o := o) (st := []) 31 (0, 0) dX4_eat_28 rfl l_X4_137 v_X4_remember ⟨Nat.le_of_ble_eq_true rfl, Nat.le_of_ble_eq_true rfl⟩ rfl rfl (Nat.le_of_ble_eq_true rfl) (Nat.le_of_ble_eq_true rfl) ⟨rfl, Nat.le_of_ble_eq_true rfl, Nat.le_of_ble_eq_true rfl⟩ hf (fun X z => ok_ck z) rfl (fun X z => T_X4_remember z) (fun h5 hf => ?_)
      refine rn_aload_n 32 dX4_eat_31 rfl rfl ?_
      refine ro_gtR 35 dX4_eat_32 rfl f_X4_29 ft_4_3 hf (fun r6 hf => ?_)
      refine ro_gtR 38 dX4_eat_35 rfl f_X4_99 ft_3_2 hf (fun r7 hf => ?_)
      refine rn_iload_n 39 dX4_eat_38 rfl rfl ?_
      refine rn_iconst 40 dX4_eat_39 rfl ic_m1 ?_
      refine ro_iastore 41 dX4_eat_40 rfl hf (fun h8 hf => ?_)
      refine rn_aload_n 42 dX4_eat_41 rfl rfl ?_
      refine ro_gtR 45 dX4_eat_42 rfl f_X4_29 ft_4_3 hf (fun r9 hf => ?_)
      refine rn_dup 46 dX4_eat_45 rfl rfl ?_
      refine ro_gtI 49 dX4_eat_46 rfl f_X4_151 ft_3_11 hf (fun v10 hf => ?_)
      refine rn_iconst 50 dX4_eat_49 rfl ic_1 ?_
      refine rn_iadd 51 dX4_eat_50 rfl ?_
      refine ro_ptI 54 dX4_eat_51 rfl f_X4_151 pn_3_11 ft_3_11 rfl rfl hf (fun h11 hf => ?_)
      refine rn_aload_n 55 dX4_eat_54 rfl rfl ?_
      refine ro_gtR 58 dX4_eat_55 rfl f_X4_29 ft_4_3 hf (fun r12 hf => ?_)
      refine ro_gtI 61 dX4_eat_58 rfl f_X4_151 ft_3_11 hf (fun v13 hf => ?_)
      exact rn_iret .int dX4_eat_61 rfl rfl (Or.inl rfl) (ok_some hf :)
    · refine rn_bipush 26 dX4_eat_24 rfl bp_m4 ?_
      exact rn_iret .int dX4_eat_26 rfl rfl (Or.inl rfl) (ok_some hf :)
  · refine rn_bipush 10 dX4_eat_8 rfl bp_m2 ?_
    exact rn_iret .int dX4_eat_10 rfl rfl (Or.inl rfl) (ok_some hf :)
theorem T_X5_eat {G : WG} {post : PO} {h : AH} {o : Nat} {x1 : Int32} (hf : OkA (F_X5_eat h o x1) (fun q => post (some q.1) q.2)) : Rn G M_X5_eat (0, 0) 0 [(0, .ref (ad G o)), (1, .int x1)] [] h post := by
  obtain ⟨_, hf⟩ := ok_ck2 hf
  refine rn_aload_n 1 dX5_eat_0 rfl rfl ?_
  refine rn_iload_n 2 dX5_eat_1 rfl rfl ?_
  refine ro_cVp (M' := M_X5_isPlace) (As := [.int x1]) (o := o) (st := []) 5 (0, 0) dX5_eat_2 rfl l_X5_163 v_X5_isPlace ⟨Nat.le_of_ble_eq_true rfl, Nat.le_of_ble_eq_true rfl⟩ rfl rfl (Nat.le_of_ble_eq_true rfl) (Nat.le_of_ble_eq_true rfl) ⟨rfl, Nat.le_of_ble_eq_true rfl, Nat.le_of_ble_eq_true rfl⟩ hf (fun X z => ok_ck z) rfl (fun X z => T_X5_isPlace z) (fun v1 hf => ?_)
  refine ro_if_ne 11 8 dX5_eat_5 rfl rfl hf (fun hf => ?_) (fun hf => ?_)
  · refine rn_aload_n 12 dX5_eat_11 rfl rfl ?_
    refine ro_gtR 15 dX5_eat_12 rfl f_X5_16 ft_5_2 hf (fun r2 hf => ?_)
    refine rn_bipush 17 dX5_eat_15 rfl bp_18 ?_
    refine rn_iload_n 18 dX5_eat_17 rfl rfl ?_
    refine rn_iadd 19 dX5_eat_18 rfl ?_
    refine ro_iaload 20 dX5_eat_19 rfl hf (fun v3 hf => ?_)
    refine rn_iconst 21 dX5_eat_20 rfl ic_m1 ?_
    refine ro_icmp_ne 27 24 dX5_eat_21 rfl rfl hf (fun hf => ?_) (fun hf => ?_)
    · refine rn_aload_n 28 dX5_eat_27 rfl rfl ?_
      refine ro_cVv (M' := M_X5_remember) (As := []) (o := o) (st := []) 31 (0, 0) dX5_eat_28 rfl l_X5_176 v_X5_remember ⟨Nat.le_of_ble_eq_true rfl, Nat.le_of_ble_eq_true rfl⟩ rfl rfl (Nat.le_of_ble_eq_true rfl) (Nat.le_of_ble_eq_true rfl) ⟨rfl, Nat.le_of_ble_eq_true rfl, Nat.le_of_ble_eq_true rfl⟩ hf (fun X z => ok_ck z) rfl (fun X z => T_X5_remember z) (fun h4 hf => ?_)
      refine rn_aload_n 32 dX5_eat_31 rfl rfl ?_
      refine ro_gtR 35 dX5_eat_32 rfl f_X5_16 ft_5_2 hf (fun r5 hf => ?_)
      refine rn_bipush 37 dX5_eat_35 rfl bp_18 ?_
      refine rn_iload_n 38 dX5_eat_37 rfl rfl ?_
      refine rn_iadd 39 dX5_eat_38 rfl ?_
      refine rn_iconst 40 dX5_eat_39 rfl ic_m1 ?_
      refine ro_iastore 41 dX5_eat_40 rfl hf (fun h6 hf => ?_)
      refine rn_aload_n 42 dX5_eat_41 rfl rfl ?_
      refine ro_gtR 45 dX5_eat_42 rfl f_X5_16 ft_5_2 hf (fun r7 hf => ?_)
      refine rn_bipush 47 dX5_eat_45 rfl bp_49 ?_
      refine rn_dup2 48 dX5_eat_47 rfl rfl rfl ?_
      refine ro_iaload 49 dX5_eat_48 rfl hf (fun v8 hf => ?_)
      refine rn_iconst 50 dX5_eat_49 rfl ic_1 ?_
      refine rn_iadd 51 dX5_eat_50 rfl ?_
      refine ro_iastore 52 dX5_eat_51 rfl hf (fun h9 hf => ?_)
      refine rn_aload_n 53 dX5_eat_52 rfl rfl ?_
      refine ro_gtR 56 dX5_eat_53 rfl f_X5_16 ft_5_2 hf (fun r10 hf => ?_)
      refine rn_bipush 58 dX5_eat_56 rfl bp_49 ?_
      refine ro_iaload 59 dX5_eat_58 rfl hf (fun v11 hf => ?_)
      exact rn_iret .int dX5_eat_59 rfl rfl (Or.inl rfl) (ok_some hf :)
    · refine rn_bipush 26 dX5_eat_24 rfl bp_m4 ?_
      exact rn_iret .int dX5_eat_26 rfl rfl (Or.inl rfl) (ok_some hf :)
  · refine rn_bipush 10 dX5_eat_8 rfl bp_m2 ?_
    exact rn_iret .int dX5_eat_10 rfl rfl (Or.inl rfl) (ok_some hf :)
theorem T_X4_heed {G : WG} {post : PO} {h : AH} {o : Nat} {x1 : Int32} (hf : OkA (F_X4_heed h o x1) (fun q => post (some q.1) q.2)) : Rn G M_X4_heed (0, 0) 0 [(0, .ref (ad G o)), (1, .int x1)] [] h post := by
  obtain ⟨_, hf⟩ := ok_ck2 hf
  refine rn_aload_n 1 dX4_heed_0 rfl rfl ?_
  refine rn_iload_n 2 dX4_heed_1 rfl rfl ?_
  refine ro_cVp (M' := M_X4_isPlace) (As := [.int x1]) (o := o) (st := []) 5 (0, 0) dX4_heed_2 rfl l_X4_86 v_X4_isPlace ⟨Nat.le_of_ble_eq_true rfl, Nat.le_of_ble_eq_true rfl⟩ rfl rfl (Nat.le_of_ble_eq_true rfl) (Nat.le_of_ble_eq_true rfl) ⟨rfl, Nat.le_of_ble_eq_true rfl, Nat.le_of_ble_eq_true rfl⟩ hf (fun X z => ok_ck z) rfl (fun X z => T_X4_isPlace z) (fun v1 hf => ?_)
  refine ro_if_ne 11 8 dX4_heed_5 rfl rfl hf (fun hf => ?_) (fun hf => ?_)
  · refine rn_aload_n 12 dX4_heed_11 rfl rfl ?_
    refine ro_gtR 15 dX4_heed_12 rfl f_X4_29 ft_4_3 hf (fun r2 hf => ?_)
    refine ro_gtR 18 dX4_heed_15 rfl f_X4_99 ft_3_2 hf (fun r3 hf => ?_)
    refine rn_iload_n 19 dX4_heed_18 rfl rfl ?_
    refine ro_iaload 20 dX4_heed_19 rfl hf (fun v4 hf => ?_)
    refine rn_iconst 21 dX4_heed_20 rfl ic_m1 ?_
    refine ro_icmp_ne 27 24 dX4_heed_21 rfl rfl hf (fun hf => ?_) (fun hf => ?_)
    · refine rn_aload_n 28 dX4_heed_27 rfl rfl ?_
      refine ro_cVv (M' := M_X4_remember) (As := []) (o := o) (st := []) 31 (0, 0) dX4_heed_28 rfl l_X4_137 v_X4_remember ⟨Nat.le_of_ble_eq_true rfl, Nat.le_of_ble_eq_true rfl⟩ rfl rfl (Nat.le_of_ble_eq_true rfl) (Nat.le_of_ble_eq_true rfl) ⟨rfl, Nat.le_of_ble_eq_true rfl, Nat.le_of_ble_eq_true rfl⟩ hf (fun X z => ok_ck z) rfl (fun X z => T_X4_remember z) (fun h5 hf => ?_)
      refine rn_aload_n 32 dX4_heed_31 rfl rfl ?_
      refine ro_gtR 35 dX4_heed_32 rfl f_X4_29 ft_4_3 hf (fun r6 hf => ?_)
      refine ro_gtR 38 dX4_heed_35 rfl f_X4_99 ft_3_2 hf (fun r7 hf => ?_)
      refine rn_iload_n 39 dX4_heed_38 rfl rfl ?_
      refine rn_iconst 40 dX4_heed_39 rfl ic_m1 ?_
      refine ro_iastore 41 dX4_heed_40 rfl hf (fun h8 hf => ?_)
      refine rn_aload_n 42 dX4_heed_41 rfl rfl ?_
      refine ro_gtR 45 dX4_heed_42 rfl f_X4_29 ft_4_3 hf (fun r9 hf => ?_)
      refine rn_dup 46 dX4_heed_45 rfl rfl ?_
      refine ro_gtI 49 dX4_heed_46 rfl f_X4_154 ft_3_12 hf (fun v10 hf => ?_)
      refine rn_iconst 50 dX4_heed_49 rfl ic_1 ?_
      refine rn_iadd 51 dX4_heed_50 rfl ?_
      refine ro_ptI 54 dX4_heed_51 rfl f_X4_154 pn_3_12 ft_3_12 rfl rfl hf (fun h11 hf => ?_)
      refine rn_aload_n 55 dX4_heed_54 rfl rfl ?_
      refine ro_gtR 58 dX4_heed_55 rfl f_X4_29 ft_4_3 hf (fun r12 hf => ?_)
      refine rn_dup 59 dX4_heed_58 rfl rfl ?_
      refine ro_gtI 62 dX4_heed_59 rfl f_X4_157 ft_3_13 hf (fun v13 hf => ?_)
      refine rn_aload_n 63 dX4_heed_62 rfl rfl ?_
      refine ro_gtR 66 dX4_heed_63 rfl f_X4_29 ft_4_3 hf (fun r14 hf => ?_)
      refine ro_gtR 69 dX4_heed_66 rfl f_X4_160 ft_3_3 hf (fun r15 hf => ?_)
      refine rn_iload_n 70 dX4_heed_69 rfl rfl ?_
      refine ro_iaload 71 dX4_heed_70 rfl hf (fun v16 hf => ?_)
      refine rn_iadd 72 dX4_heed_71 rfl ?_
      refine ro_ptI 75 dX4_heed_72 rfl f_X4_157 pn_3_13 ft_3_13 rfl rfl hf (fun h17 hf => ?_)
      refine rn_aload_n 76 dX4_heed_75 rfl rfl ?_
      refine ro_gtR 79 dX4_heed_76 rfl f_X4_29 ft_4_3 hf (fun r18 hf => ?_)
      refine ro_gtI 82 dX4_heed_79 rfl f_X4_157 ft_3_13 hf (fun v19 hf => ?_)
      refine rn_sipush 85 dX4_heed_82 rfl sp_9999 ?_
      refine rn_iadd 86 dX4_heed_85 rfl ?_
      exact rn_iret .int dX4_heed_86 rfl rfl (Or.inl rfl) (ok_some hf :)
    · refine rn_bipush 26 dX4_heed_24 rfl bp_m4 ?_
      exact rn_iret .int dX4_heed_26 rfl rfl (Or.inl rfl) (ok_some hf :)
  · refine rn_bipush 10 dX4_heed_8 rfl bp_m2 ?_
    exact rn_iret .int dX4_heed_10 rfl rfl (Or.inl rfl) (ok_some hf :)
theorem T_X5_heed {G : WG} {post : PO} {h : AH} {o : Nat} {x1 : Int32} (hf : OkA (F_X5_heed h o x1) (fun q => post (some q.1) q.2)) : Rn G M_X5_heed (0, 0) 0 [(0, .ref (ad G o)), (1, .int x1)] [] h post := by
  obtain ⟨_, hf⟩ := ok_ck2 hf
  refine rn_aload_n 1 dX5_heed_0 rfl rfl ?_
  refine rn_iload_n 2 dX5_heed_1 rfl rfl ?_
  refine ro_cVp (M' := M_X5_isPlace) (As := [.int x1]) (o := o) (st := []) 5 (0, 0) dX5_heed_2 rfl l_X5_163 v_X5_isPlace ⟨Nat.le_of_ble_eq_true rfl, Nat.le_of_ble_eq_true rfl⟩ rfl rfl (Nat.le_of_ble_eq_true rfl) (Nat.le_of_ble_eq_true rfl) ⟨rfl, Nat.le_of_ble_eq_true rfl, Nat.le_of_ble_eq_true rfl⟩ hf (fun X z => ok_ck z) rfl (fun X z => T_X5_isPlace z) (fun v1 hf => ?_)
  refine ro_if_ne 11 8 dX5_heed_5 rfl rfl hf (fun hf => ?_) (fun hf => ?_)
  · refine rn_aload_n 12 dX5_heed_11 rfl rfl ?_
    refine ro_gtR 15 dX5_heed_12 rfl f_X5_16 ft_5_2 hf (fun r2 hf => ?_)
    refine rn_bipush 17 dX5_heed_15 rfl bp_18 ?_
    refine rn_iload_n 18 dX5_heed_17 rfl rfl ?_
    refine rn_iadd 19 dX5_heed_18 rfl ?_
    refine ro_iaload 20 dX5_heed_19 rfl hf (fun v3 hf => ?_)
    refine rn_iconst 21 dX5_heed_20 rfl ic_m1 ?_
    refine ro_icmp_ne 27 24 dX5_heed_21 rfl rfl hf (fun hf => ?_) (fun hf => ?_)
    · refine rn_aload_n 28 dX5_heed_27 rfl rfl ?_
      refine ro_cVv (M' := M_X5_remember) (As := []) (o := o) (st := []) 31 (0, 0) dX5_heed_28 rfl l_X5_176 v_X5_remember ⟨Nat.le_of_ble_eq_true rfl, Nat.le_of_ble_eq_true rfl⟩ rfl rfl (Nat.le_of_ble_eq_true rfl) (Nat.le_of_ble_eq_true rfl) ⟨rfl, Nat.le_of_ble_eq_true rfl, Nat.le_of_ble_eq_true rfl⟩ hf (fun X z => ok_ck z) rfl (fun X z => T_X5_remember z) (fun h4 hf => ?_)
      refine rn_aload_n 32 dX5_heed_31 rfl rfl ?_
      refine ro_gtR 35 dX5_heed_32 rfl f_X5_16 ft_5_2 hf (fun r5 hf => ?_)
      refine rn_bipush 37 dX5_heed_35 rfl bp_18 ?_
      refine rn_iload_n 38 dX5_heed_37 rfl rfl ?_
      refine rn_iadd 39 dX5_heed_38 rfl ?_
      refine rn_iconst 40 dX5_heed_39 rfl ic_m1 ?_
      refine ro_iastore 41 dX5_heed_40 rfl hf (fun h6 hf => ?_)
      refine rn_aload_n 42 dX5_heed_41 rfl rfl ?_
      refine ro_gtR 45 dX5_heed_42 rfl f_X5_16 ft_5_2 hf (fun r7 hf => ?_)
      refine rn_bipush 47 dX5_heed_45 rfl bp_50 ?_
      refine rn_dup2 48 dX5_heed_47 rfl rfl rfl ?_
      refine ro_iaload 49 dX5_heed_48 rfl hf (fun v8 hf => ?_)
      refine rn_iconst 50 dX5_heed_49 rfl ic_1 ?_
      refine rn_iadd 51 dX5_heed_50 rfl ?_
      refine ro_iastore 52 dX5_heed_51 rfl hf (fun h9 hf => ?_)
      refine rn_aload_n 53 dX5_heed_52 rfl rfl ?_
      refine ro_gtR 56 dX5_heed_53 rfl f_X5_16 ft_5_2 hf (fun r10 hf => ?_)
      refine rn_bipush 58 dX5_heed_56 rfl bp_51 ?_
      refine rn_dup2 59 dX5_heed_58 rfl rfl rfl ?_
      refine ro_iaload 60 dX5_heed_59 rfl hf (fun v11 hf => ?_)
      refine rn_aload_n 61 dX5_heed_60 rfl rfl ?_
      refine ro_gtR 64 dX5_heed_61 rfl f_X5_16 ft_5_2 hf (fun r12 hf => ?_)
      refine rn_bipush 66 dX5_heed_64 rfl bp_26 ?_
      refine rn_iload_n 67 dX5_heed_66 rfl rfl ?_
      refine rn_iadd 68 dX5_heed_67 rfl ?_
      refine ro_iaload 69 dX5_heed_68 rfl hf (fun v13 hf => ?_)
      refine rn_iconst 70 dX5_heed_69 rfl ic_1 ?_
      refine ro_reg (X := (fun q14 : Int32 => Rn G M_X5_heed (0, 0) 78 [(0, .ref (ad G o)), (1, .int x1)] [.int q14, .int v11, .int 51, .ref (ad G r10)] h9 post)) hf (fun q14 hf => ?_) (fun hf => ?_)
      · refine rn_iadd 79 dX5_heed_78 rfl ?_
        refine ro_iastore 80 dX5_heed_79 rfl hf (fun h15 hf => ?_)
        refine rn_aload_n 81 dX5_heed_80 rfl rfl ?_
        refine ro_gtR 84 dX5_heed_81 rfl f_X5_16 ft_5_2 hf (fun r16 hf => ?_)
        refine rn_bipush 86 dX5_heed_84 rfl bp_51 ?_
        refine ro_iaload 87 dX5_heed_86 rfl hf (fun v17 hf => ?_)
        refine rn_sipush 90 dX5_heed_87 rfl sp_9999 ?_
        refine rn_iadd 91 dX5_heed_90 rfl ?_
        exact rn_iret .int dX5_heed_91 rfl rfl (Or.inl rfl) (ok_some hf :)
      · refine ro_icmp_ne 77 73 dX5_heed_70 rfl rfl hf (fun hf => ?_) (fun hf => ?_)
        · refine rn_iconst 78 dX5_heed_77 rfl ic_m1 ?_
          exact (ok_some hf :)
        · refine rn_iconst 74 dX5_heed_73 rfl ic_2 ?_
          refine rn_goto 78 dX5_heed_74 rfl ?_
          exact (ok_some hf :)
    · refine rn_bipush 26 dX5_heed_24 rfl bp_m4 ?_
      exact rn_iret .int dX5_heed_26 rfl rfl (Or.inl rfl) (ok_some hf :)
  · refine rn_bipush 10 dX5_heed_8 rfl bp_m2 ?_
    exact rn_iret .int dX5_heed_10 rfl rfl (Or.inl rfl) (ok_some hf :)
theorem T_X4_undo {G : WG} {post : PO} {h : AH} {o : Nat} (hf : OkA (F_X4_undo h o) (fun q => post (some q.1) q.2)) : Rn G M_X4_undo (0, 0) 0 [(0, .ref (ad G o))] [] h post := by
  obtain ⟨_, hf⟩ := ok_ck2 hf
  refine rn_aload_n 1 dX4_undo_0 rfl rfl ?_
  refine ro_gtI 4 dX4_undo_1 rfl f_X4_80 ft_4_6 hf (fun v1 hf => ?_)
  refine ro_if_le 16 7 dX4_undo_4 rfl rfl hf (fun hf => ?_) (fun hf => ?_)
  · refine rn_bipush 18 dX4_undo_16 rfl bp_m4 ?_
    exact rn_iret .int dX4_undo_18 rfl rfl (Or.inl rfl) (ok_some hf :)
  · refine rn_aload_n 8 dX4_undo_7 rfl rfl ?_
    refine ro_gtI 11 dX4_undo_8 rfl f_X4_80 ft_4_6 hf (fun v2 hf => ?_)
    refine rn_bipush 13 dX4_undo_11 rfl bp_8 ?_
    refine ro_icmp_le 19 16 dX4_undo_13 rfl rfl hf (fun hf => ?_) (fun hf => ?_)
    · refine rn_aload_n 20 dX4_undo_19 rfl rfl ?_
      refine rn_dup 21 dX4_undo_20 rfl rfl ?_
      refine ro_gtI 24 dX4_undo_21 rfl f_X4_80 ft_4_6 hf (fun v3 hf => ?_)
      refine rn_iconst 25 dX4_undo_24 rfl ic_1 ?_
      refine rn_isub 26 dX4_undo_25 rfl ?_
      refine ro_ptI 29 dX4_undo_26 rfl f_X4_80 pn_4_6 ft_4_6 rfl rfl hf (fun h4 hf => ?_)
      refine rn_aload_n 30 dX4_undo_29 rfl rfl ?_
      refine ro_gtR 33 dX4_undo_30 rfl f_X4_29 ft_4_3 hf (fun r5 hf => ?_)
      refine rn_aload_n 34 dX4_undo_33 rfl rfl ?_
      refine ro_gtR 37 dX4_undo_34 rfl f_X4_36 ft_4_5 hf (fun r6 hf => ?_)
      refine rn_aload_n 38 dX4_undo_37 rfl rfl ?_
      refine ro_gtI 41 dX4_undo_38 rfl f_X4_80 ft_4_6 hf (fun v7 hf => ?_)
      refine ro_aaload 42 dX4_undo_41 rfl hf (fun r8 hf => ?_)
      refine ro_cVv (M' := M_X3_copyFrom) (As := [.ref (ad G r8)]) (o := r5) (st := []) 45 (0, 0) dX4_undo_42 rfl l_X4_163 v_X3_copyFrom ⟨Nat.le_of_ble_eq_true rfl, Nat.le_of_ble_eq_true rfl⟩ rfl rfl (Nat.le_of_ble_eq_true rfl) (Nat.le_of_ble_eq_true rfl) ⟨rfl, Nat.le_of_ble_eq_true rfl, Nat.le_of_ble_eq_true rfl⟩ hf (fun X z => ok_ck z) rfl (fun X z => T_X3_copyFrom z) (fun h9 hf => ?_)
      refine rn_aload_n 46 dX4_undo_45 rfl rfl ?_
      refine ro_gtI 49 dX4_undo_46 rfl f_X4_80 ft_4_6 hf (fun v10 hf => ?_)
      exact rn_iret .int dX4_undo_49 rfl rfl (Or.inl rfl) (ok_some hf :)
    · refine rn_bipush 18 dX4_undo_16 rfl bp_m4 ?_
      exact rn_iret .int dX4_undo_18 rfl rfl (Or.inl rfl) (ok_some hf :)
theorem T_X5_undo {G : WG} {post : PO} {h : AH} {o : Nat} (hf : OkA (F_X5_undo h o) (fun q => post (some q.1) q.2)) : Rn G M_X5_undo (0, 0) 0 [(0, .ref (ad G o))] [] h post := by
  obtain ⟨_, hf⟩ := ok_ck2 hf
  refine rn_aload_n 1 dX5_undo_0 rfl rfl ?_
  refine ro_gtI 4 dX5_undo_1 rfl f_X5_54 ft_5_4 hf (fun v1 hf => ?_)
  refine ro_if_ne 10 7 dX5_undo_4 rfl rfl hf (fun hf => ?_) (fun hf => ?_)
  · refine rn_aload_n 11 dX5_undo_10 rfl rfl ?_
    refine rn_dup 12 dX5_undo_11 rfl rfl ?_
    refine ro_gtI 15 dX5_undo_12 rfl f_X5_54 ft_5_4 hf (fun v2 hf => ?_)
    refine rn_iconst 16 dX5_undo_15 rfl ic_1 ?_
    refine rn_isub 17 dX5_undo_16 rfl ?_
    refine ro_ptI 20 dX5_undo_17 rfl f_X5_54 pn_5_4 ft_5_4 rfl rfl hf (fun h3 hf => ?_)
    refine rn_aload_n 21 dX5_undo_20 rfl rfl ?_
    refine ro_gtR 24 dX5_undo_21 rfl f_X5_19 ft_5_3 hf (fun r4 hf => ?_)
    refine rn_bipush 26 dX5_undo_24 rfl bp_52 ?_
    refine rn_aload_n 27 dX5_undo_26 rfl rfl ?_
    refine ro_gtI 30 dX5_undo_27 rfl f_X5_54 ft_5_4 hf (fun v5 hf => ?_)
    refine rn_imul 31 dX5_undo_30 rfl ?_
    refine rn_aload_n 32 dX5_undo_31 rfl rfl ?_
    refine ro_gtR 35 dX5_undo_32 rfl f_X5_16 ft_5_2 hf (fun r6 hf => ?_)
    refine rn_iconst 36 dX5_undo_35 rfl ic_0 ?_
    refine rn_bipush 38 dX5_undo_36 rfl bp_52 ?_
    refine ro_cSv (M' := M_X5_copies) (As := [.ref (ad G r4), .int (52 * v5), .ref (ad G r6), .int 0, .int 52]) (st := []) 41 (0, 0) dX5_undo_38 rfl l_X5_141 v_X5_copies ⟨Nat.le_of_ble_eq_true rfl, Nat.le_of_ble_eq_true rfl⟩ rfl rfl (Nat.le_of_ble_eq_true rfl) (Nat.le_of_ble_eq_true rfl) ⟨rfl, Nat.le_of_ble_eq_true rfl, Nat.le_of_ble_eq_true rfl⟩ hf (fun X z => T_X5_copies z) (fun h7 hf => ?_)
    refine rn_aload_n 42 dX5_undo_41 rfl rfl ?_
    refine ro_gtI 45 dX5_undo_42 rfl f_X5_54 ft_5_4 hf (fun v8 hf => ?_)
    exact rn_iret .int dX5_undo_45 rfl rfl (Or.inl rfl) (ok_some hf :)
  · refine rn_bipush 9 dX5_undo_7 rfl bp_m4 ?_
    exact rn_iret .int dX5_undo_9 rfl rfl (Or.inl rfl) (ok_some hf :)
theorem T_X4_keep {G : WG} {post : PO} {h : AH} {o : Nat} {x1 : Int32} (hf : OkA (F_X4_keep h o x1) (fun q => post (some q.1) q.2)) : Rn G M_X4_keep (0, 0) 0 [(0, .ref (ad G o)), (1, .int x1)] [] h post := by
  obtain ⟨_, hf⟩ := ok_ck2 hf
  refine rn_iload_n 1 dX4_keep_0 rfl rfl ?_
  refine ro_if_lt 9 4 dX4_keep_1 rfl rfl hf (fun hf => ?_) (fun hf => ?_)
  · refine rn_bipush 11 dX4_keep_9 rfl bp_m2 ?_
    exact rn_iret .int dX4_keep_11 rfl rfl (Or.inl rfl) (ok_some hf :)
  · refine rn_iload_n 5 dX4_keep_4 rfl rfl ?_
    refine rn_iconst 6 dX4_keep_5 rfl ic_2 ?_
    refine ro_icmp_lt 12 9 dX4_keep_6 rfl rfl hf (fun hf => ?_) (fun hf => ?_)
    · refine rn_aload_n 13 dX4_keep_12 rfl rfl ?_
      refine ro_gtR 16 dX4_keep_13 rfl f_X4_40 ft_4_7 hf (fun r1 hf => ?_)
      refine rn_iload_n 17 dX4_keep_16 rfl rfl ?_
      refine ro_aaload 18 dX4_keep_17 rfl hf (fun r2 hf => ?_)
      refine rn_aload_n 19 dX4_keep_18 rfl rfl ?_
      refine ro_gtR 22 dX4_keep_19 rfl f_X4_29 ft_4_3 hf (fun r3 hf => ?_)
      refine ro_cVv (M' := M_X3_copyFrom) (As := [.ref (ad G r3)]) (o := r2) (st := []) 25 (0, 0) dX4_keep_22 rfl l_X4_163 v_X3_copyFrom ⟨Nat.le_of_ble_eq_true rfl, Nat.le_of_ble_eq_true rfl⟩ rfl rfl (Nat.le_of_ble_eq_true rfl) (Nat.le_of_ble_eq_true rfl) ⟨rfl, Nat.le_of_ble_eq_true rfl, Nat.le_of_ble_eq_true rfl⟩ hf (fun X z => ok_ck z) rfl (fun X z => T_X3_copyFrom z) (fun h4 hf => ?_)
      refine rn_aload_n 26 dX4_keep_25 rfl rfl ?_
      refine ro_gtR 29 dX4_keep_26 rfl f_X4_43 ft_4_8 hf (fun r5 hf => ?_)
      refine rn_iload_n 30 dX4_keep_29 rfl rfl ?_
      refine rn_iconst 31 dX4_keep_30 rfl ic_1 ?_
      refine ro_bastore 32 dX4_keep_31 rfl hf (fun h6 hf => ?_)
      refine rn_aload_n 33 dX4_keep_32 rfl rfl ?_
      refine ro_gtR 36 dX4_keep_33 rfl f_X4_29 ft_4_3 hf (fun r7 hf => ?_)
      refine ro_gtI 39 dX4_keep_36 rfl f_X4_134 ft_3_9 hf (fun v8 hf => ?_)
      exact rn_iret .int dX4_keep_39 rfl rfl (Or.inl rfl) (ok_some hf :)
    · refine rn_bipush 11 dX4_keep_9 rfl bp_m2 ?_
      exact rn_iret .int dX4_keep_11 rfl rfl (Or.inl rfl) (ok_some hf :)
theorem T_X5_isTwo {G : WG} {post : PO} {h : AH} {x0 : Int32} (hf : OkA (F_X5_isTwo h x0) (fun q => post (some q) h)) : Rn G M_X5_isTwo (0, 0) 0 [(0, .int x0)] [] h post := by
  refine rn_iload_n 1 dX5_isTwo_0 rfl rfl ?_
  refine rn_i2l 2 dX5_isTwo_1 rfl ?_
  refine rn_lconst 3 dX5_isTwo_2 rfl lc_0 ?_
  refine rn_lconst 4 dX5_isTwo_3 rfl lc_1 ?_
  refine ro_cSp (M' := M_X5_in) (As := [.long x0.toInt64, .long 0, .long 1]) (st := []) 7 (0, 0) dX5_isTwo_4 rfl l_X5_63 v_X5_in ⟨Nat.le_of_ble_eq_true rfl, Nat.le_of_ble_eq_true rfl⟩ rfl rfl (Nat.le_of_ble_eq_true rfl) (Nat.le_of_ble_eq_true rfl) ⟨rfl, Nat.le_of_ble_eq_true rfl, Nat.le_of_ble_eq_true rfl⟩ hf (fun X z => T_X5_in z) (fun v1 hf => ?_)
  exact ro_zret dX5_isTwo_7 rfl (Or.inl rfl) hf (fun v2 hf => (ok_some hf :))
theorem T_X5_keep {G : WG} {post : PO} {h : AH} {o : Nat} {x1 : Int32} (hf : OkA (F_X5_keep h o x1) (fun q => post (some q.1) q.2)) : Rn G M_X5_keep (0, 0) 0 [(0, .ref (ad G o)), (1, .int x1)] [] h post := by
  obtain ⟨_, hf⟩ := ok_ck2 hf
  refine rn_iload_n 1 dX5_keep_0 rfl rfl ?_
  refine ro_cSp (M' := M_X5_isTwo) (As := [.int x1]) (st := []) 4 (0, 0) dX5_keep_1 rfl l_X5_189 v_X5_isTwo ⟨Nat.le_of_ble_eq_true rfl, Nat.le_of_ble_eq_true rfl⟩ rfl rfl (Nat.le_of_ble_eq_true rfl) (Nat.le_of_ble_eq_true rfl) ⟨rfl, Nat.le_of_ble_eq_true rfl, Nat.le_of_ble_eq_true rfl⟩ hf (fun X z => T_X5_isTwo z) (fun v1 hf => ?_)
  refine ro_if_ne 10 7 dX5_keep_4 rfl rfl hf (fun hf => ?_) (fun hf => ?_)
  · refine rn_aload_n 11 dX5_keep_10 rfl rfl ?_
    refine ro_gtR 14 dX5_keep_11 rfl f_X5_16 ft_5_2 hf (fun r2 hf => ?_)
    refine rn_iconst 15 dX5_keep_14 rfl ic_0 ?_
    refine rn_aload_n 16 dX5_keep_15 rfl rfl ?_
    refine ro_gtR 19 dX5_keep_16 rfl f_X5_22 ft_5_5 hf (fun r3 hf => ?_)
    refine rn_bipush 21 dX5_keep_19 rfl bp_52 ?_
    refine rn_iload_n 22 dX5_keep_21 rfl rfl ?_
    refine rn_imul 23 dX5_keep_22 rfl ?_
    refine rn_bipush 25 dX5_keep_23 rfl bp_52 ?_
    refine ro_cSv (M' := M_X5_copies) (As := [.ref (ad G r2), .int 0, .ref (ad G r3), .int (52 * x1), .int 52]) (st := []) 28 (0, 0) dX5_keep_25 rfl l_X5_141 v_X5_copies ⟨Nat.le_of_ble_eq_true rfl, Nat.le_of_ble_eq_true rfl⟩ rfl rfl (Nat.le_of_ble_eq_true rfl) (Nat.le_of_ble_eq_true rfl) ⟨rfl, Nat.le_of_ble_eq_true rfl, Nat.le_of_ble_eq_true rfl⟩ hf (fun X z => T_X5_copies z) (fun h4 hf => ?_)
    refine rn_aload_n 29 dX5_keep_28 rfl rfl ?_
    refine ro_gtR 32 dX5_keep_29 rfl f_X5_25 ft_5_6 hf (fun r5 hf => ?_)
    refine rn_iload_n 33 dX5_keep_32 rfl rfl ?_
    refine rn_iconst 34 dX5_keep_33 rfl ic_1 ?_
    refine ro_bastore 35 dX5_keep_34 rfl hf (fun h6 hf => ?_)
    refine rn_aload_n 36 dX5_keep_35 rfl rfl ?_
    refine ro_gtR 39 dX5_keep_36 rfl f_X5_16 ft_5_2 hf (fun r7 hf => ?_)
    refine rn_iconst 40 dX5_keep_39 rfl ic_0 ?_
    refine ro_iaload 41 dX5_keep_40 rfl hf (fun v8 hf => ?_)
    exact rn_iret .int dX5_keep_41 rfl rfl (Or.inl rfl) (ok_some hf :)
  · refine rn_bipush 9 dX5_keep_7 rfl bp_m2 ?_
    exact rn_iret .int dX5_keep_9 rfl rfl (Or.inl rfl) (ok_some hf :)
theorem T_X4_back {G : WG} {post : PO} {h : AH} {o : Nat} {x1 : Int32} (hf : OkA (F_X4_back h o x1) (fun q => post (some q.1) q.2)) : Rn G M_X4_back (0, 0) 0 [(0, .ref (ad G o)), (1, .int x1)] [] h post := by
  obtain ⟨_, hf⟩ := ok_ck2 hf
  refine rn_iload_n 1 dX4_back_0 rfl rfl ?_
  refine ro_if_lt 9 4 dX4_back_1 rfl rfl hf (fun hf => ?_) (fun hf => ?_)
  · refine rn_bipush 11 dX4_back_9 rfl bp_m2 ?_
    exact rn_iret .int dX4_back_11 rfl rfl (Or.inl rfl) (ok_some hf :)
  · refine rn_iload_n 5 dX4_back_4 rfl rfl ?_
    refine rn_iconst 6 dX4_back_5 rfl ic_2 ?_
    refine ro_icmp_lt 12 9 dX4_back_6 rfl rfl hf (fun hf => ?_) (fun hf => ?_)
    · refine rn_aload_n 13 dX4_back_12 rfl rfl ?_
      refine ro_gtR 16 dX4_back_13 rfl f_X4_43 ft_4_8 hf (fun r1 hf => ?_)
      refine rn_iload_n 17 dX4_back_16 rfl rfl ?_
      refine ro_baload 18 dX4_back_17 rfl hf (fun v2 hf => ?_)
      refine ro_if_ne 24 21 dX4_back_18 rfl rfl hf (fun hf => ?_) (fun hf => ?_)
      · refine rn_aload_n 25 dX4_back_24 rfl rfl ?_
        refine ro_gtR 28 dX4_back_25 rfl f_X4_29 ft_4_3 hf (fun r3 hf => ?_)
        refine rn_aload_n 29 dX4_back_28 rfl rfl ?_
        refine ro_gtR 32 dX4_back_29 rfl f_X4_40 ft_4_7 hf (fun r4 hf => ?_)
        refine rn_iload_n 33 dX4_back_32 rfl rfl ?_
        refine ro_aaload 34 dX4_back_33 rfl hf (fun r5 hf => ?_)
        refine ro_cVv (M' := M_X3_copyFrom) (As := [.ref (ad G r5)]) (o := r3) (st := []) 37 (0, 0) dX4_back_34 rfl l_X4_163 v_X3_copyFrom ⟨Nat.le_of_ble_eq_true rfl, Nat.le_of_ble_eq_true rfl⟩ rfl rfl (Nat.le_of_ble_eq_true rfl) (Nat.le_of_ble_eq_true rfl) ⟨rfl, Nat.le_of_ble_eq_true rfl, Nat.le_of_ble_eq_true rfl⟩ hf (fun X z => ok_ck z) rfl (fun X z => T_X3_copyFrom z) (fun h6 hf => ?_)
        refine rn_aload_n 38 dX4_back_37 rfl rfl ?_
        refine rn_iconst 39 dX4_back_38 rfl ic_0 ?_
        refine ro_ptI 42 dX4_back_39 rfl f_X4_80 pn_4_6 ft_4_6 rfl rfl hf (fun h7 hf => ?_)
        refine rn_aload_n 43 dX4_back_42 rfl rfl ?_
        refine ro_gtR 46 dX4_back_43 rfl f_X4_29 ft_4_3 hf (fun r8 hf => ?_)
        refine ro_gtI 49 dX4_back_46 rfl f_X4_134 ft_3_9 hf (fun v9 hf => ?_)
        exact rn_iret .int dX4_back_49 rfl rfl (Or.inl rfl) (ok_some hf :)
      · refine rn_bipush 23 dX4_back_21 rfl bp_m4 ?_
        exact rn_iret .int dX4_back_23 rfl rfl (Or.inl rfl) (ok_some hf :)
    · refine rn_bipush 11 dX4_back_9 rfl bp_m2 ?_
      exact rn_iret .int dX4_back_11 rfl rfl (Or.inl rfl) (ok_some hf :)
theorem T_X5_back {G : WG} {post : PO} {h : AH} {o : Nat} {x1 : Int32} (hf : OkA (F_X5_back h o x1) (fun q => post (some q.1) q.2)) : Rn G M_X5_back (0, 0) 0 [(0, .ref (ad G o)), (1, .int x1)] [] h post := by
  obtain ⟨_, hf⟩ := ok_ck2 hf
  refine rn_iload_n 1 dX5_back_0 rfl rfl ?_
  refine ro_cSp (M' := M_X5_isTwo) (As := [.int x1]) (st := []) 4 (0, 0) dX5_back_1 rfl l_X5_189 v_X5_isTwo ⟨Nat.le_of_ble_eq_true rfl, Nat.le_of_ble_eq_true rfl⟩ rfl rfl (Nat.le_of_ble_eq_true rfl) (Nat.le_of_ble_eq_true rfl) ⟨rfl, Nat.le_of_ble_eq_true rfl, Nat.le_of_ble_eq_true rfl⟩ hf (fun X z => T_X5_isTwo z) (fun v1 hf => ?_)
  refine ro_if_ne 10 7 dX5_back_4 rfl rfl hf (fun hf => ?_) (fun hf => ?_)
  · refine rn_aload_n 11 dX5_back_10 rfl rfl ?_
    refine ro_gtR 14 dX5_back_11 rfl f_X5_25 ft_5_6 hf (fun r2 hf => ?_)
    refine rn_iload_n 15 dX5_back_14 rfl rfl ?_
    refine ro_baload 16 dX5_back_15 rfl hf (fun v3 hf => ?_)
    refine ro_if_ne 22 19 dX5_back_16 rfl rfl hf (fun hf => ?_) (fun hf => ?_)
    · refine rn_aload_n 23 dX5_back_22 rfl rfl ?_
      refine ro_gtR 26 dX5_back_23 rfl f_X5_22 ft_5_5 hf (fun r4 hf => ?_)
      refine rn_bipush 28 dX5_back_26 rfl bp_52 ?_
      refine rn_iload_n 29 dX5_back_28 rfl rfl ?_
      refine rn_imul 30 dX5_back_29 rfl ?_
      refine rn_aload_n 31 dX5_back_30 rfl rfl ?_
      refine ro_gtR 34 dX5_back_31 rfl f_X5_16 ft_5_2 hf (fun r5 hf => ?_)
      refine rn_iconst 35 dX5_back_34 rfl ic_0 ?_
      refine rn_bipush 37 dX5_back_35 rfl bp_52 ?_
      refine ro_cSv (M' := M_X5_copies) (As := [.ref (ad G r4), .int (52 * x1), .ref (ad G r5), .int 0, .int 52]) (st := []) 40 (0, 0) dX5_back_37 rfl l_X5_141 v_X5_copies ⟨Nat.le_of_ble_eq_true rfl, Nat.le_of_ble_eq_true rfl⟩ rfl rfl (Nat.le_of_ble_eq_true rfl) (Nat.le_of_ble_eq_true rfl) ⟨rfl, Nat.le_of_ble_eq_true rfl, Nat.le_of_ble_eq_true rfl⟩ hf (fun X z => T_X5_copies z) (fun h6 hf => ?_)
      refine rn_aload_n 41 dX5_back_40 rfl rfl ?_
      refine rn_iconst 42 dX5_back_41 rfl ic_0 ?_
      refine ro_ptI 45 dX5_back_42 rfl f_X5_54 pn_5_4 ft_5_4 rfl rfl hf (fun h7 hf => ?_)
      refine rn_aload_n 46 dX5_back_45 rfl rfl ?_
      refine ro_gtR 49 dX5_back_46 rfl f_X5_16 ft_5_2 hf (fun r8 hf => ?_)
      refine rn_iconst 50 dX5_back_49 rfl ic_0 ?_
      refine ro_iaload 51 dX5_back_50 rfl hf (fun v9 hf => ?_)
      exact rn_iret .int dX5_back_51 rfl rfl (Or.inl rfl) (ok_some hf :)
    · refine rn_bipush 21 dX5_back_19 rfl bp_m4 ?_
      exact rn_iret .int dX5_back_21 rfl rfl (Or.inl rfl) (ok_some hf :)
  · refine rn_bipush 9 dX5_back_7 rfl bp_m2 ?_
    exact rn_iret .int dX5_back_9 rfl rfl (Or.inl rfl) (ok_some hf :)
theorem TL_X4_foretell_13 {G : WG} {post : PO} {β : Type} {P : β → Prop} {o0 : Nat} {x1 : Int32} {k : AH → Int32 → Option (β)} (hk : ∀ (h : AH) (x2 : Int32), OkA (k h x2) P → Rn G M_X4_foretell (0, 0) 35 [(0, .ref (ad G o0)), (1, .int x1), (2, .int x2)] [] h post) : ∀ (n : Nat) (h : AH) (x2 : Int32), OkA (L_X4_foretell_13 o0 x1 k n h x2) P → Rn G M_X4_foretell (0, 0) 13 [(0, .ref (ad G o0)), (1, .int x1), (2, .int x2)] [] h post := by
  intro n
  induction n with
  | zero => intro _ _ hf; exact absurd hf ok_none
  | succ n ih =>
    intro h x2 hf
    refine rn_iload_n 14 dX4_foretell_13 rfl rfl ?_
    refine rn_iload_n 15 dX4_foretell_14 rfl rfl ?_
    refine ro_icmp_ge 35 18 dX4_foretell_15 rfl rfl hf (fun hf => ?_) (fun hf => ?_)
    · exact hk _ _ hf
    · refine rn_aload_n 19 dX4_foretell_18 rfl rfl ?_
      refine ro_gtR 22 dX4_foretell_19 rfl f_X4_33 ft_4_4 hf (fun r1 hf => ?_)
      refine rn_aload_n 23 dX4_foretell_22 rfl rfl ?_
      refine ro_gtR 26 dX4_foretell_23 rfl f_X4_19 ft_4_1 hf (fun r2 hf => ?_)
      refine ro_cVv (M' := M_X3_passDay) (As := [.ref (ad G r2)]) (o := r1) (st := []) 29 (0, 0) dX4_foretell_26 rfl l_X4_140 v_X3_passDay ⟨Nat.le_of_ble_eq_true rfl, Nat.le_of_ble_eq_true rfl⟩ rfl rfl (Nat.le_of_ble_eq_true rfl) (Nat.le_of_ble_eq_true rfl) ⟨rfl, Nat.le_of_ble_eq_true rfl, Nat.le_of_ble_eq_true rfl⟩ hf (fun X z => ok_ck z) rfl (fun X z => T_X3_passDay z) (fun h3 hf => ?_)
      refine rn_iinc (lv' := [(0, .ref (ad G o0)), (1, .int x1), (2, .int (x2 + 1))]) 32 dX4_foretell_29 rfl (Nat.le_of_ble_eq_true rfl) rfl (inc_1 _) rfl ?_
      refine rn_goto 13 dX4_foretell_32 rfl ?_
      exact ih _ _ hf
theorem T_X4_foretell {G : WG} {post : PO} {h : AH} {o : Nat} {x1 : Int32} (hf : OkA (F_X4_foretell h o x1) (fun q => post none q)) : Rn G M_X4_foretell (0, 0) 0 [(0, .ref (ad G o)), (1, .int x1)] [] h post := by
  obtain ⟨_, hf⟩ := ok_ck2 hf
  refine rn_aload_n 1 dX4_foretell_0 rfl rfl ?_
  refine ro_gtR 4 dX4_foretell_1 rfl f_X4_33 ft_4_4 hf (fun r1 hf => ?_)
  refine rn_aload_n 5 dX4_foretell_4 rfl rfl ?_
  refine ro_gtR 8 dX4_foretell_5 rfl f_X4_29 ft_4_3 hf (fun r2 hf => ?_)
  refine ro_cVv (M' := M_X3_copyFrom) (As := [.ref (ad G r2)]) (o := r1) (st := []) 11 (0, 0) dX4_foretell_8 rfl l_X4_163 v_X3_copyFrom ⟨Nat.le_of_ble_eq_true rfl, Nat.le_of_ble_eq_true rfl⟩ rfl rfl (Nat.le_of_ble_eq_true rfl) (Nat.le_of_ble_eq_true rfl) ⟨rfl, Nat.le_of_ble_eq_true rfl, Nat.le_of_ble_eq_true rfl⟩ hf (fun X z => ok_ck z) rfl (fun X z => T_X3_copyFrom z) (fun h3 hf => ?_)
  refine rn_iconst 12 dX4_foretell_11 rfl ic_0 ?_
  refine rn_istore_n (lv' := [(0, .ref (ad G o)), (1, .int x1), (2, .int 0)]) 13 dX4_foretell_12 rfl (Nat.le_of_ble_eq_true rfl) rfl ?_
  refine TL_X4_foretell_13 ?_ FU _ _ hf
  intro h4 y5 hf
  exact rn_vret dX4_foretell_35 rfl (Or.inl rfl) (ok_some hf :)
theorem TL_X3_placeOfEgg_2 {G : WG} {post : PO} {h : AH} {o0 : Nat} {x1 : Int32} {k : Int32 → Option (Int32)} (hk : ∀ (x2 : Int32), OkA (k x2) (fun q => post (some q) h) → Rn G M_X3_placeOfEgg (0, 0) 26 [(0, .ref (ad G o0)), (1, .int x1), (2, .int x2)] [] h post) : ∀ (n : Nat) (x2 : Int32), OkA (L_X3_placeOfEgg_2 h o0 x1 k n x2) (fun q => post (some q) h) → Rn G M_X3_placeOfEgg (0, 0) 2 [(0, .ref (ad G o0)), (1, .int x1), (2, .int x2)] [] h post := by
  intro n
  induction n with
  | zero => intro _ hf; exact absurd hf ok_none
  | succ n ih =>
    intro x2 hf
    refine rn_iload_n 3 dX3_placeOfEgg_2 rfl rfl ?_
    refine rn_bipush 5 dX3_placeOfEgg_3 rfl bp_8 ?_
    refine ro_icmp_ge 26 8 dX3_placeOfEgg_5 rfl rfl hf (fun hf => ?_) (fun hf => ?_)
    · exact hk _ hf
    · refine rn_aload_n 9 dX3_placeOfEgg_8 rfl rfl ?_
      refine ro_gtR 12 dX3_placeOfEgg_9 rfl f_X3_18 ft_3_2 hf (fun r1 hf => ?_)
      refine rn_iload_n 13 dX3_placeOfEgg_12 rfl rfl ?_
      refine ro_iaload 14 dX3_placeOfEgg_13 rfl hf (fun v2 hf => ?_)
      refine rn_iload_n 15 dX3_placeOfEgg_14 rfl rfl ?_
      refine ro_icmp_ne 20 18 dX3_placeOfEgg_15 rfl rfl hf (fun hf => ?_) (fun hf => ?_)
      · refine rn_iinc (lv' := [(0, .ref (ad G o0)), (1, .int x1), (2, .int (x2 + 1))]) 23 dX3_placeOfEgg_20 rfl (Nat.le_of_ble_eq_true rfl) rfl (inc_1 _) rfl ?_
        refine rn_goto 2 dX3_placeOfEgg_23 rfl ?_
        exact ih _ hf
      · refine rn_iload_n 19 dX3_placeOfEgg_18 rfl rfl ?_
        exact rn_iret .int dX3_placeOfEgg_19 rfl rfl (Or.inl rfl) (ok_some hf :)
theorem T_X3_placeOfEgg {G : WG} {post : PO} {h : AH} {o : Nat} {x1 : Int32} (hf : OkA (F_X3_placeOfEgg h o x1) (fun q => post (some q) h)) : Rn G M_X3_placeOfEgg (0, 0) 0 [(0, .ref (ad G o)), (1, .int x1)] [] h post := by
  obtain ⟨_, hf⟩ := ok_ck2 hf
  refine rn_iconst 1 dX3_placeOfEgg_0 rfl ic_0 ?_
  refine rn_istore_n (lv' := [(0, .ref (ad G o)), (1, .int x1), (2, .int 0)]) 2 dX3_placeOfEgg_1 rfl (Nat.le_of_ble_eq_true rfl) rfl ?_
  refine TL_X3_placeOfEgg_2 ?_ FU _ hf
  intro y3 hf
  refine rn_iconst 27 dX3_placeOfEgg_26 rfl ic_m1 ?_
  exact rn_iret .int dX3_placeOfEgg_27 rfl rfl (Or.inl rfl) (ok_some hf :)
theorem T_X4_lays {G : WG} {post : PO} {h : AH} {o : Nat} {x1 : Int32} {x2 : Int32} (hf : OkA (F_X4_lays h o x1 x2) (fun q => post (some q.1) q.2)) : Rn G M_X4_lays (0, 0) 0 [(0, .ref (ad G o)), (1, .int x1), (2, .int x2)] [] h post := by
  obtain ⟨_, hf⟩ := ok_ck2 hf
  refine rn_aload_n 1 dX4_lays_0 rfl rfl ?_
  refine rn_iload_n 2 dX4_lays_1 rfl rfl ?_
  refine ro_cVp (M' := M_X4_isHen) (As := [.int x1]) (o := o) (st := []) 5 (0, 0) dX4_lays_2 rfl l_X4_102 v_X4_isHen ⟨Nat.le_of_ble_eq_true rfl, Nat.le_of_ble_eq_true rfl⟩ rfl rfl (Nat.le_of_ble_eq_true rfl) (Nat.le_of_ble_eq_true rfl) ⟨rfl, Nat.le_of_ble_eq_true rfl, Nat.le_of_ble_eq_true rfl⟩ hf (fun X z => ok_ck z) rfl (fun X z => T_X4_isHen z) (fun v1 hf => ?_)
  refine ro_if_ne 11 8 dX4_lays_5 rfl rfl hf (fun hf => ?_) (fun hf => ?_)
  · refine rn_iload_n 12 dX4_lays_11 rfl rfl ?_
    refine rn_iconst 13 dX4_lays_12 rfl ic_1 ?_
    refine ro_icmp_lt 22 16 dX4_lays_13 rfl rfl hf (fun hf => ?_) (fun hf => ?_)
    · refine rn_bipush 24 dX4_lays_22 rfl bp_m3 ?_
      exact rn_iret .int dX4_lays_24 rfl rfl (Or.inl rfl) (ok_some hf :)
    · refine rn_iload_n 17 dX4_lays_16 rfl rfl ?_
      refine rn_bipush 19 dX4_lays_17 rfl bp_30 ?_
      refine ro_icmp_le 25 22 dX4_lays_19 rfl rfl hf (fun hf => ?_) (fun hf => ?_)
      · refine rn_aload_n 26 dX4_lays_25 rfl rfl ?_
        refine rn_iload_n 27 dX4_lays_26 rfl rfl ?_
        refine ro_cVv (M' := M_X4_foretell) (As := [.int x2]) (o := o) (st := []) 30 (0, 0) dX4_lays_27 rfl l_X4_166 v_X4_foretell ⟨Nat.le_of_ble_eq_true rfl, Nat.le_of_ble_eq_true rfl⟩ rfl rfl (Nat.le_of_ble_eq_true rfl) (Nat.le_of_ble_eq_true rfl) ⟨rfl, Nat.le_of_ble_eq_true rfl, Nat.le_of_ble_eq_true rfl⟩ hf (fun X z => ok_ck z) rfl (fun X z => T_X4_foretell z) (fun h2 hf => ?_)
        refine rn_aload_n 31 dX4_lays_30 rfl rfl ?_
        refine ro_gtR 34 dX4_lays_31 rfl f_X4_33 ft_4_4 hf (fun r3 hf => ?_)
        refine rn_iload_n 35 dX4_lays_34 rfl rfl ?_
        refine ro_cVp (M' := M_X3_placeOfEgg) (As := [.int x1]) (o := r3) (st := []) 38 (0, 0) dX4_lays_35 rfl l_X4_170 v_X3_placeOfEgg ⟨Nat.le_of_ble_eq_true rfl, Nat.le_of_ble_eq_true rfl⟩ rfl rfl (Nat.le_of_ble_eq_true rfl) (Nat.le_of_ble_eq_true rfl) ⟨rfl, Nat.le_of_ble_eq_true rfl, Nat.le_of_ble_eq_true rfl⟩ hf (fun X z => ok_ck z) rfl (fun X z => T_X3_placeOfEgg z) (fun v4 hf => ?_)
        exact rn_iret .int dX4_lays_38 rfl rfl (Or.inl rfl) (ok_some hf :)
      · refine rn_bipush 24 dX4_lays_22 rfl bp_m3 ?_
        exact rn_iret .int dX4_lays_24 rfl rfl (Or.inl rfl) (ok_some hf :)
  · refine rn_bipush 10 dX4_lays_8 rfl bp_m2 ?_
    exact rn_iret .int dX4_lays_10 rfl rfl (Or.inl rfl) (ok_some hf :)
theorem T_X5_layAside {G : WG} {post : PO} {h : AH} {o : Nat} (hf : OkA (F_X5_layAside h o) (fun q => post none q)) : Rn G M_X5_layAside (0, 0) 0 [(0, .ref (ad G o))] [] h post := by
  obtain ⟨_, hf⟩ := ok_ck2 hf
  refine rn_aload_n 1 dX5_layAside_0 rfl rfl ?_
  refine ro_gtR 4 dX5_layAside_1 rfl f_X5_16 ft_5_2 hf (fun r1 hf => ?_)
  refine rn_iconst 5 dX5_layAside_4 rfl ic_0 ?_
  refine rn_aload_n 6 dX5_layAside_5 rfl rfl ?_
  refine ro_gtR 9 dX5_layAside_6 rfl f_X5_44 ft_5_20 hf (fun r2 hf => ?_)
  refine rn_iconst 10 dX5_layAside_9 rfl ic_0 ?_
  refine rn_bipush 12 dX5_layAside_10 rfl bp_52 ?_
  refine ro_cSv (M' := M_X5_copies) (As := [.ref (ad G r1), .int 0, .ref (ad G r2), .int 0, .int 52]) (st := []) 15 (0, 0) dX5_layAside_12 rfl l_X5_141 v_X5_copies ⟨Nat.le_of_ble_eq_true rfl, Nat.le_of_ble_eq_true rfl⟩ rfl rfl (Nat.le_of_ble_eq_true rfl) (Nat.le_of_ble_eq_true rfl) ⟨rfl, Nat.le_of_ble_eq_true rfl, Nat.le_of_ble_eq_true rfl⟩ hf (fun X z => T_X5_copies z) (fun h3 hf => ?_)
  exact rn_vret dX5_layAside_15 rfl (Or.inl rfl) (ok_some hf :)
theorem TL_X5_go_2 {G : WG} {post : PO} {β : Type} {P : β → Prop} {o0 : Nat} {x1 : Int32} {k : AH → Int32 → Option (β)} (hk : ∀ (h : AH) (x2 : Int32), OkA (k h x2) P → Rn G M_X5_go (0, 0) 22 [(0, .ref (ad G o0)), (1, .int x1), (2, .int x2)] [] h post) : ∀ (n : Nat) (h : AH) (x2 : Int32), OkA (L_X5_go_2 o0 x1 k n h x2) P → Rn G M_X5_go (0, 0) 2 [(0, .ref (ad G o0)), (1, .int x1), (2, .int x2)] [] h post := by
  intro n
  induction n with
  | zero => intro _ _ hf; exact absurd hf ok_none
  | succ n ih =>
    intro h x2 hf
    refine rn_iload_n 3 dX5_go_2 rfl rfl ?_
    refine rn_iload_n 4 dX5_go_3 rfl rfl ?_
    refine ro_icmp_ge 22 7 dX5_go_4 rfl rfl hf (fun hf => ?_) (fun hf => ?_)
    · exact hk _ _ hf
    · refine rn_aload_n 8 dX5_go_7 rfl rfl ?_
      refine rn_aload_n 9 dX5_go_8 rfl rfl ?_
      refine ro_gtR 12 dX5_go_9 rfl f_X5_44 ft_5_20 hf (fun r1 hf => ?_)
      refine ro_cVi (M' := M_X5_goes) (As := [.ref (ad G r1)]) (o := o0) (st := []) 15 (0, 0) dX5_go_12 rfl l_X5_179 v_X5_goes ⟨Nat.le_of_ble_eq_true rfl, Nat.le_of_ble_eq_true rfl⟩ rfl rfl (Nat.le_of_ble_eq_true rfl) (Nat.le_of_ble_eq_true rfl) ⟨rfl, Nat.le_of_ble_eq_true rfl, Nat.le_of_ble_eq_true rfl⟩ hf (fun X z => ok_ck z) rfl (fun X z => T_X5_goes z) (fun q2 hf => ?_)
      refine rn_istore_n (lv' := [(0, .ref (ad G o0)), (1, .int x1), (2, .int x2), (3, .int q2.1)]) 16 dX5_go_15 rfl (Nat.le_of_ble_eq_true rfl) rfl ?_
      refine rn_iinc (lv' := [(0, .ref (ad G o0)), (1, .int x1), (2, .int (x2 + 1)), (3, .int q2.1)]) 19 dX5_go_16 rfl (Nat.le_of_ble_eq_true rfl) rfl (inc_1 _) rfl ?_
      refine rn_goto 2 dX5_go_19 rfl ?_
      refine rn_take (lv' := [(0, .ref (ad G o0)), (1, .int x1), (2, .int (x2 + 1))]) [0, 1, 2] rfl ?_
      exact ih _ _ hf
theorem T_X5_go {G : WG} {post : PO} {h : AH} {o : Nat} {x1 : Int32} (hf : OkA (F_X5_go h o x1) (fun q => post none q)) : Rn G M_X5_go (0, 0) 0 [(0, .ref (ad G o)), (1, .int x1)] [] h post := by
  obtain ⟨_, hf⟩ := ok_ck2 hf
  refine rn_iconst 1 dX5_go_0 rfl ic_0 ?_
  refine rn_istore_n (lv' := [(0, .ref (ad G o)), (1, .int x1), (2, .int 0)]) 2 dX5_go_1 rfl (Nat.le_of_ble_eq_true rfl) rfl ?_
  refine TL_X5_go_2 ?_ FU _ _ hf
  intro h3 y4 hf
  exact rn_vret dX5_go_22 rfl (Or.inl rfl) (ok_some hf :)
theorem T_X5_lays {G : WG} {post : PO} {h : AH} {o : Nat} {x1 : Int32} {x2 : Int32} (hf : OkA (F_X5_lays h o x1 x2) (fun q => post (some q.1) q.2)) : Rn G M_X5_lays (0, 0) 0 [(0, .ref (ad G o)), (1, .int x1), (2, .int x2)] [] h post := by
  obtain ⟨_, hf⟩ := ok_ck2 hf
  refine rn_aload_n 1 dX5_lays_0 rfl rfl ?_
  refine rn_iload_n 2 dX5_lays_1 rfl rfl ?_
  refine ro_cVp (M' := M_X5_isHen) (As := [.int x1]) (o := o) (st := []) 5 (0, 0) dX5_lays_2 rfl l_X5_166 v_X5_isHen ⟨Nat.le_of_ble_eq_true rfl, Nat.le_of_ble_eq_true rfl⟩ rfl rfl (Nat.le_of_ble_eq_true rfl) (Nat.le_of_ble_eq_true rfl) ⟨rfl, Nat.le_of_ble_eq_true rfl, Nat.le_of_ble_eq_true rfl⟩ hf (fun X z => ok_ck z) rfl (fun X z => T_X5_isHen z) (fun v1 hf => ?_)
  refine ro_if_ne 11 8 dX5_lays_5 rfl rfl hf (fun hf => ?_) (fun hf => ?_)
  · refine rn_iload_n 12 dX5_lays_11 rfl rfl ?_
    refine rn_i2l 13 dX5_lays_12 rfl ?_
    refine rn_lconst 14 dX5_lays_13 rfl lc_1 ?_
    refine rn_ldc2 17 dX5_lays_14 rfl k_X5_192 ?_
    refine ro_cSp (M' := M_X5_in) (As := [.long x2.toInt64, .long 1, .long 30]) (st := []) 20 (0, 0) dX5_lays_17 rfl l_X5_63 v_X5_in ⟨Nat.le_of_ble_eq_true rfl, Nat.le_of_ble_eq_true rfl⟩ rfl rfl (Nat.le_of_ble_eq_true rfl) (Nat.le_of_ble_eq_true rfl) ⟨rfl, Nat.le_of_ble_eq_true rfl, Nat.le_of_ble_eq_true rfl⟩ hf (fun X z => T_X5_in z) (fun v2 hf => ?_)
    refine ro_if_ne 26 23 dX5_lays_20 rfl rfl hf (fun hf => ?_) (fun hf => ?_)
    · refine rn_aload_n 27 dX5_lays_26 rfl rfl ?_
      refine ro_cVv (M' := M_X5_asTold) (As := []) (o := o) (st := []) 30 (0, 0) dX5_lays_27 rfl l_X5_173 v_X5_asTold ⟨Nat.le_of_ble_eq_true rfl, Nat.le_of_ble_eq_true rfl⟩ rfl rfl (Nat.le_of_ble_eq_true rfl) (Nat.le_of_ble_eq_true rfl) ⟨rfl, Nat.le_of_ble_eq_true rfl, Nat.le_of_ble_eq_true rfl⟩ hf (fun X z => ok_ck z) rfl (fun X z => T_X5_asTold z) (fun h3 hf => ?_)
      refine rn_aload_n 31 dX5_lays_30 rfl rfl ?_
      refine ro_cVv (M' := M_X5_layAside) (As := []) (o := o) (st := []) 34 (0, 0) dX5_lays_31 rfl l_X5_194 v_X5_layAside ⟨Nat.le_of_ble_eq_true rfl, Nat.le_of_ble_eq_true rfl⟩ rfl rfl (Nat.le_of_ble_eq_true rfl) (Nat.le_of_ble_eq_true rfl) ⟨rfl, Nat.le_of_ble_eq_true rfl, Nat.le_of_ble_eq_true rfl⟩ hf (fun X z => ok_ck z) rfl (fun X z => T_X5_layAside z) (fun h4 hf => ?_)
      refine rn_aload_n 35 dX5_lays_34 rfl rfl ?_
      refine rn_iload_n 36 dX5_lays_35 rfl rfl ?_
      refine ro_cVv (M' := M_X5_go) (As := [.int x2]) (o := o) (st := []) 39 (0, 0) dX5_lays_36 rfl l_X5_197 v_X5_go ⟨Nat.le_of_ble_eq_true rfl, Nat.le_of_ble_eq_true rfl⟩ rfl rfl (Nat.le_of_ble_eq_true rfl) (Nat.le_of_ble_eq_true rfl) ⟨rfl, Nat.le_of_ble_eq_true rfl, Nat.le_of_ble_eq_true rfl⟩ hf (fun X z => ok_ck z) rfl (fun X z => T_X5_go z) (fun h5 hf => ?_)
      refine rn_aload_n 40 dX5_lays_39 rfl rfl ?_
      refine ro_gtR 43 dX5_lays_40 rfl f_X5_41 ft_5_19 hf (fun r6 hf => ?_)
      refine rn_iload_n 44 dX5_lays_43 rfl rfl ?_
      refine ro_iaload 45 dX5_lays_44 rfl hf (fun v7 hf => ?_)
      exact rn_iret .int dX5_lays_45 rfl rfl (Or.inl rfl) (ok_some hf :)
    · refine rn_bipush 25 dX5_lays_23 rfl bp_m3 ?_
      exact rn_iret .int dX5_lays_25 rfl rfl (Or.inl rfl) (ok_some hf :)
  · refine rn_bipush 10 dX5_lays_8 rfl bp_m2 ?_
    exact rn_iret .int dX5_lays_10 rfl rfl (Or.inl rfl) (ok_some hf :)
theorem T_X4_rightsForetold {G : WG} {post : PO} {h : AH} {o : Nat} {x1 : Int32} (hf : OkA (F_X4_rightsForetold h o x1) (fun q => post (some q) h)) : Rn G M_X4_rightsForetold (0, 0) 0 [(0, .ref (ad G o)), (1, .int x1)] [] h post := by
  obtain ⟨_, hf⟩ := ok_ck2 hf
  refine rn_aload_n 1 dX4_rightsForetold_0 rfl rfl ?_
  refine ro_gtR 4 dX4_rightsForetold_1 rfl f_X4_33 ft_4_4 hf (fun r1 hf => ?_)
  refine ro_gtR 7 dX4_rightsForetold_4 rfl f_X4_114 ft_3_7 hf (fun r2 hf => ?_)
  refine rn_iload_n 8 dX4_rightsForetold_7 rfl rfl ?_
  refine ro_iaload 9 dX4_rightsForetold_8 rfl hf (fun v3 hf => ?_)
  refine rn_aload_n 10 dX4_rightsForetold_9 rfl rfl ?_
  refine ro_gtR 13 dX4_rightsForetold_10 rfl f_X4_29 ft_4_3 hf (fun r4 hf => ?_)
  refine ro_gtR 16 dX4_rightsForetold_13 rfl f_X4_114 ft_3_7 hf (fun r5 hf => ?_)
  refine rn_iload_n 17 dX4_rightsForetold_16 rfl rfl ?_
  refine ro_iaload 18 dX4_rightsForetold_17 rfl hf (fun v6 hf => ?_)
  refine rn_isub 19 dX4_rightsForetold_18 rfl ?_
  exact rn_iret .int dX4_rightsForetold_19 rfl rfl (Or.inl rfl) (ok_some hf :)
theorem T_X4_rights {G : WG} {post : PO} {h : AH} {o : Nat} {x1 : Int32} {x2 : Int32} (hf : OkA (F_X4_rights h o x1 x2) (fun q => post (some q.1) q.2)) : Rn G M_X4_rights (0, 0) 0 [(0, .ref (ad G o)), (1, .int x1), (2, .int x2)] [] h post := by
  obtain ⟨_, hf⟩ := ok_ck2 hf
  refine rn_aload_n 1 dX4_rights_0 rfl rfl ?_
  refine rn_iload_n 2 dX4_rights_1 rfl rfl ?_
  refine ro_cVp (M' := M_X4_isHen) (As := [.int x1]) (o := o) (st := []) 5 (0, 0) dX4_rights_2 rfl l_X4_102 v_X4_isHen ⟨Nat.le_of_ble_eq_true rfl, Nat.le_of_ble_eq_true rfl⟩ rfl rfl (Nat.le_of_ble_eq_true rfl) (Nat.le_of_ble_eq_true rfl) ⟨rfl, Nat.le_of_ble_eq_true rfl, Nat.le_of_ble_eq_true rfl⟩ hf (fun X z => ok_ck z) rfl (fun X z => T_X4_isHen z) (fun v1 hf => ?_)
  refine ro_if_ne 11 8 dX4_rights_5 rfl rfl hf (fun hf => ?_) (fun hf => ?_)
  · refine rn_iload_n 12 dX4_rights_11 rfl rfl ?_
    refine ro_if_lt 21 15 dX4_rights_12 rfl rfl hf (fun hf => ?_) (fun hf => ?_)
    · refine rn_bipush 23 dX4_rights_21 rfl bp_m3 ?_
      exact rn_iret .int dX4_rights_23 rfl rfl (Or.inl rfl) (ok_some hf :)
    · refine rn_iload_n 16 dX4_rights_15 rfl rfl ?_
      refine rn_bipush 18 dX4_rights_16 rfl bp_30 ?_
      refine ro_icmp_le 24 21 dX4_rights_18 rfl rfl hf (fun hf => ?_) (fun hf => ?_)
      · refine rn_aload_n 25 dX4_rights_24 rfl rfl ?_
        refine rn_iload_n 26 dX4_rights_25 rfl rfl ?_
        refine ro_cVv (M' := M_X4_foretell) (As := [.int x2]) (o := o) (st := []) 29 (0, 0) dX4_rights_26 rfl l_X4_166 v_X4_foretell ⟨Nat.le_of_ble_eq_true rfl, Nat.le_of_ble_eq_true rfl⟩ rfl rfl (Nat.le_of_ble_eq_true rfl) (Nat.le_of_ble_eq_true rfl) ⟨rfl, Nat.le_of_ble_eq_true rfl, Nat.le_of_ble_eq_true rfl⟩ hf (fun X z => ok_ck z) rfl (fun X z => T_X4_foretell z) (fun h2 hf => ?_)
        refine rn_aload_n 30 dX4_rights_29 rfl rfl ?_
        refine rn_iload_n 31 dX4_rights_30 rfl rfl ?_
        refine ro_cVp (M' := M_X4_rightsForetold) (As := [.int x1]) (o := o) (st := []) 34 (0, 0) dX4_rights_31 rfl l_X4_174 v_X4_rightsForetold ⟨Nat.le_of_ble_eq_true rfl, Nat.le_of_ble_eq_true rfl⟩ rfl rfl (Nat.le_of_ble_eq_true rfl) (Nat.le_of_ble_eq_true rfl) ⟨rfl, Nat.le_of_ble_eq_true rfl, Nat.le_of_ble_eq_true rfl⟩ hf (fun X z => ok_ck z) rfl (fun X z => T_X4_rightsForetold z) (fun v3 hf => ?_)
        exact rn_iret .int dX4_rights_34 rfl rfl (Or.inl rfl) (ok_some hf :)
      · refine rn_bipush 23 dX4_rights_21 rfl bp_m3 ?_
        exact rn_iret .int dX4_rights_23 rfl rfl (Or.inl rfl) (ok_some hf :)
  · refine rn_bipush 10 dX4_rights_8 rfl bp_m2 ?_
    exact rn_iret .int dX4_rights_10 rfl rfl (Or.inl rfl) (ok_some hf :)
theorem T_X5_rights {G : WG} {post : PO} {h : AH} {o : Nat} {x1 : Int32} {x2 : Int32} (hf : OkA (F_X5_rights h o x1 x2) (fun q => post (some q.1) q.2)) : Rn G M_X5_rights (0, 0) 0 [(0, .ref (ad G o)), (1, .int x1), (2, .int x2)] [] h post := by
  obtain ⟨_, hf⟩ := ok_ck2 hf
  refine rn_aload_n 1 dX5_rights_0 rfl rfl ?_
  refine rn_iload_n 2 dX5_rights_1 rfl rfl ?_
  refine ro_cVp (M' := M_X5_isHen) (As := [.int x1]) (o := o) (st := []) 5 (0, 0) dX5_rights_2 rfl l_X5_166 v_X5_isHen ⟨Nat.le_of_ble_eq_true rfl, Nat.le_of_ble_eq_true rfl⟩ rfl rfl (Nat.le_of_ble_eq_true rfl) (Nat.le_of_ble_eq_true rfl) ⟨rfl, Nat.le_of_ble_eq_true rfl, Nat.le_of_ble_eq_true rfl⟩ hf (fun X z => ok_ck z) rfl (fun X z => T_X5_isHen z) (fun v1 hf => ?_)
  refine ro_if_ne 11 8 dX5_rights_5 rfl rfl hf (fun hf => ?_) (fun hf => ?_)
  · refine rn_iload_n 12 dX5_rights_11 rfl rfl ?_
    refine rn_i2l 13 dX5_rights_12 rfl ?_
    refine rn_lconst 14 dX5_rights_13 rfl lc_0 ?_
    refine rn_ldc2 17 dX5_rights_14 rfl k_X5_192 ?_
    refine ro_cSp (M' := M_X5_in) (As := [.long x2.toInt64, .long 0, .long 30]) (st := []) 20 (0, 0) dX5_rights_17 rfl l_X5_63 v_X5_in ⟨Nat.le_of_ble_eq_true rfl, Nat.le_of_ble_eq_true rfl⟩ rfl rfl (Nat.le_of_ble_eq_true rfl) (Nat.le_of_ble_eq_true rfl) ⟨rfl, Nat.le_of_ble_eq_true rfl, Nat.le_of_ble_eq_true rfl⟩ hf (fun X z => T_X5_in z) (fun v2 hf => ?_)
    refine ro_if_ne 26 23 dX5_rights_20 rfl rfl hf (fun hf => ?_) (fun hf => ?_)
    · refine rn_aload_n 27 dX5_rights_26 rfl rfl ?_
      refine ro_cVv (M' := M_X5_asTold) (As := []) (o := o) (st := []) 30 (0, 0) dX5_rights_27 rfl l_X5_173 v_X5_asTold ⟨Nat.le_of_ble_eq_true rfl, Nat.le_of_ble_eq_true rfl⟩ rfl rfl (Nat.le_of_ble_eq_true rfl) (Nat.le_of_ble_eq_true rfl) ⟨rfl, Nat.le_of_ble_eq_true rfl, Nat.le_of_ble_eq_true rfl⟩ hf (fun X z => ok_ck z) rfl (fun X z => T_X5_asTold z) (fun h3 hf => ?_)
      refine rn_aload_n 31 dX5_rights_30 rfl rfl ?_
      refine ro_cVv (M' := M_X5_layAside) (As := []) (o := o) (st := []) 34 (0, 0) dX5_rights_31 rfl l_X5_194 v_X5_layAside ⟨Nat.le_of_ble_eq_true rfl, Nat.le_of_ble_eq_true rfl⟩ rfl rfl (Nat.le_of_ble_eq_true rfl) (Nat.le_of_ble_eq_true rfl) ⟨rfl, Nat.le_of_ble_eq_true rfl, Nat.le_of_ble_eq_true rfl⟩ hf (fun X z => ok_ck z) rfl (fun X z => T_X5_layAside z) (fun h4 hf => ?_)
      refine rn_aload_n 35 dX5_rights_34 rfl rfl ?_
      refine rn_iload_n 36 dX5_rights_35 rfl rfl ?_
      refine ro_cVv (M' := M_X5_go) (As := [.int x2]) (o := o) (st := []) 39 (0, 0) dX5_rights_36 rfl l_X5_197 v_X5_go ⟨Nat.le_of_ble_eq_true rfl, Nat.le_of_ble_eq_true rfl⟩ rfl rfl (Nat.le_of_ble_eq_true rfl) (Nat.le_of_ble_eq_true rfl) ⟨rfl, Nat.le_of_ble_eq_true rfl, Nat.le_of_ble_eq_true rfl⟩ hf (fun X z => ok_ck z) rfl (fun X z => T_X5_go z) (fun h5 hf => ?_)
      refine rn_aload_n 40 dX5_rights_39 rfl rfl ?_
      refine ro_gtR 43 dX5_rights_40 rfl f_X5_44 ft_5_20 hf (fun r6 hf => ?_)
      refine rn_bipush 45 dX5_rights_43 rfl bp_39 ?_
      refine rn_iload_n 46 dX5_rights_45 rfl rfl ?_
      refine rn_iadd 47 dX5_rights_46 rfl ?_
      refine ro_iaload 48 dX5_rights_47 rfl hf (fun v7 hf => ?_)
      refine rn_aload_n 49 dX5_rights_48 rfl rfl ?_
      refine ro_gtR 52 dX5_rights_49 rfl f_X5_16 ft_5_2 hf (fun r8 hf => ?_)
      refine rn_bipush 54 dX5_rights_52 rfl bp_39 ?_
      refine rn_iload_n 55 dX5_rights_54 rfl rfl ?_
      refine rn_iadd 56 dX5_rights_55 rfl ?_
      refine ro_iaload 57 dX5_rights_56 rfl hf (fun v9 hf => ?_)
      refine rn_isub 58 dX5_rights_57 rfl ?_
      exact rn_iret .int dX5_rights_58 rfl rfl (Or.inl rfl) (ok_some hf :)
    · refine rn_bipush 25 dX5_rights_23 rfl bp_m3 ?_
      exact rn_iret .int dX5_rights_25 rfl rfl (Or.inl rfl) (ok_some hf :)
  · refine rn_bipush 10 dX5_rights_8 rfl bp_m2 ?_
    exact rn_iret .int dX5_rights_10 rfl rfl (Or.inl rfl) (ok_some hf :)
theorem TL_X4_ask_35 {G : WG} {post : PO} {β : Type} {P : β → Prop} {h : AH} {o0 : Nat} {x1 : Int32} {x2 : Int32} {k : Int32 → Int32 → Int32 → Option (β)} (hk : ∀ (x3 : Int32) (x4 : Int32) (x5 : Int32), OkA (k x3 x4 x5) P → Rn G M_X4_ask (0, 0) 75 [(0, .ref (ad G o0)), (1, .int x1), (2, .int x2), (3, .int x3), (4, .int x4), (5, .int x5)] [] h post) : ∀ (n : Nat) (x3 : Int32) (x4 : Int32) (x5 : Int32), OkA (L_X4_ask_35 h o0 x1 x2 k n x3 x4 x5) P → Rn G M_X4_ask (0, 0) 35 [(0, .ref (ad G o0)), (1, .int x1), (2, .int x2), (3, .int x3), (4, .int x4), (5, .int x5)] [] h post := by
  intro n
  induction n with
  | zero => intro _ _ _ hf; exact absurd hf ok_none
  | succ n ih =>
    intro x3 x4 x5 hf
    refine rn_iload 37 dX4_ask_35 rfl rfl ?_
    refine rn_aload_n 38 dX4_ask_37 rfl rfl ?_
    refine ro_gtR 41 dX4_ask_38 rfl f_X4_19 ft_4_1 hf (fun r1 hf => ?_)
    refine ro_gtI 44 dX4_ask_41 rfl f_X4_177 ft_2_1 hf (fun v2 hf => ?_)
    refine ro_icmp_ge 75 47 dX4_ask_44 rfl rfl hf (fun hf => ?_) (fun hf => ?_)
    · exact hk _ _ _ hf
    · refine rn_aload_n 48 dX4_ask_47 rfl rfl ?_
      refine rn_iload 50 dX4_ask_48 rfl rfl ?_
      refine ro_cVp (M' := M_X4_rightsForetold) (As := [.int x5]) (o := o0) (st := []) 53 (0, 0) dX4_ask_50 rfl l_X4_174 v_X4_rightsForetold ⟨Nat.le_of_ble_eq_true rfl, Nat.le_of_ble_eq_true rfl⟩ rfl rfl (Nat.le_of_ble_eq_true rfl) (Nat.le_of_ble_eq_true rfl) ⟨rfl, Nat.le_of_ble_eq_true rfl, Nat.le_of_ble_eq_true rfl⟩ hf (fun X z => ok_ck z) rfl (fun X z => T_X4_rightsForetold z) (fun v3 hf => ?_)
      refine rn_iload 55 dX4_ask_53 rfl rfl ?_
      refine ro_reg (X := (fun q4 : Int32 × Int32 => Rn G M_X4_ask (0, 0) 69 [(0, .ref (ad G o0)), (1, .int x1), (2, .int x2), (3, .int q4.1), (4, .int q4.2), (5, .int x5)] [] h post)) hf (fun q4 hf => ?_) (fun hf => ?_)
      · refine rn_iinc (lv' := [(0, .ref (ad G o0)), (1, .int x1), (2, .int x2), (3, .int q4.1), (4, .int q4.2), (5, .int (x5 + 1))]) 72 dX4_ask_69 rfl (Nat.le_of_ble_eq_true rfl) rfl (inc_1 _) rfl ?_
        refine rn_goto 35 dX4_ask_72 rfl ?_
        exact ih _ _ _ hf
      · refine ro_icmp_le 69 58 dX4_ask_55 rfl rfl hf (fun hf => ?_) (fun hf => ?_)
        · exact (ok_some hf :)
        · refine rn_aload_n 59 dX4_ask_58 rfl rfl ?_
          refine rn_iload 61 dX4_ask_59 rfl rfl ?_
          refine ro_cVp (M' := M_X4_rightsForetold) (As := [.int x5]) (o := o0) (st := []) 64 (0, 0) dX4_ask_61 rfl l_X4_174 v_X4_rightsForetold ⟨Nat.le_of_ble_eq_true rfl, Nat.le_of_ble_eq_true rfl⟩ rfl rfl (Nat.le_of_ble_eq_true rfl) (Nat.le_of_ble_eq_true rfl) ⟨rfl, Nat.le_of_ble_eq_true rfl, Nat.le_of_ble_eq_true rfl⟩ hf (fun X z => ok_ck z) rfl (fun X z => T_X4_rightsForetold z) (fun v5 hf => ?_)
          refine rn_istore (lv' := [(0, .ref (ad G o0)), (1, .int x1), (2, .int x2), (3, .int x3), (4, .int v5), (5, .int x5)]) 66 dX4_ask_64 rfl (Nat.le_of_ble_eq_true rfl) rfl ?_
          refine rn_iload 68 dX4_ask_66 rfl rfl ?_
          refine rn_istore_n (lv' := [(0, .ref (ad G o0)), (1, .int x1), (2, .int x2), (3, .int x5), (4, .int v5), (5, .int x5)]) 69 dX4_ask_68 rfl (Nat.le_of_ble_eq_true rfl) rfl ?_
          exact (ok_some hf :)
theorem T_X4_ask {G : WG} {post : PO} {h : AH} {o : Nat} {x1 : Int32} {x2 : Int32} (hf : OkA (F_X4_ask h o x1 x2) (fun q => post (some q.1) q.2)) : Rn G M_X4_ask (0, 0) 0 [(0, .ref (ad G o)), (1, .int x1), (2, .int x2)] [] h post := by
  obtain ⟨_, hf⟩ := ok_ck2 hf
  refine rn_iload_n 1 dX4_ask_0 rfl rfl ?_
  refine ro_if_lt 19 4 dX4_ask_1 rfl rfl hf (fun hf => ?_) (fun hf => ?_)
  · refine rn_bipush 21 dX4_ask_19 rfl bp_m3 ?_
    exact rn_iret .int dX4_ask_21 rfl rfl (Or.inl rfl) (ok_some hf :)
  · refine rn_iload_n 5 dX4_ask_4 rfl rfl ?_
    refine rn_bipush 7 dX4_ask_5 rfl bp_30 ?_
    refine ro_icmp_gt 19 10 dX4_ask_7 rfl rfl hf (fun hf => ?_) (fun hf => ?_)
    · refine rn_bipush 21 dX4_ask_19 rfl bp_m3 ?_
      exact rn_iret .int dX4_ask_21 rfl rfl (Or.inl rfl) (ok_some hf :)
    · refine rn_iload_n 11 dX4_ask_10 rfl rfl ?_
      refine ro_if_lt 19 14 dX4_ask_11 rfl rfl hf (fun hf => ?_) (fun hf => ?_)
      · refine rn_bipush 21 dX4_ask_19 rfl bp_m3 ?_
        exact rn_iret .int dX4_ask_21 rfl rfl (Or.inl rfl) (ok_some hf :)
      · refine rn_iload_n 15 dX4_ask_14 rfl rfl ?_
        refine rn_iconst 16 dX4_ask_15 rfl ic_1 ?_
        refine ro_icmp_le 22 19 dX4_ask_16 rfl rfl hf (fun hf => ?_) (fun hf => ?_)
        · refine rn_aload_n 23 dX4_ask_22 rfl rfl ?_
          refine rn_iload_n 24 dX4_ask_23 rfl rfl ?_
          refine ro_cVv (M' := M_X4_foretell) (As := [.int x1]) (o := o) (st := []) 27 (0, 0) dX4_ask_24 rfl l_X4_166 v_X4_foretell ⟨Nat.le_of_ble_eq_true rfl, Nat.le_of_ble_eq_true rfl⟩ rfl rfl (Nat.le_of_ble_eq_true rfl) (Nat.le_of_ble_eq_true rfl) ⟨rfl, Nat.le_of_ble_eq_true rfl, Nat.le_of_ble_eq_true rfl⟩ hf (fun X z => ok_ck z) rfl (fun X z => T_X4_foretell z) (fun h1 hf => ?_)
          refine rn_iconst 28 dX4_ask_27 rfl ic_m1 ?_
          refine rn_istore_n (lv' := [(0, .ref (ad G o)), (1, .int x1), (2, .int x2), (3, .int (-1))]) 29 dX4_ask_28 rfl (Nat.le_of_ble_eq_true rfl) rfl ?_
          refine rn_iconst 30 dX4_ask_29 rfl ic_m1 ?_
          refine rn_istore (lv' := [(0, .ref (ad G o)), (1, .int x1), (2, .int x2), (3, .int (-1)), (4, .int (-1))]) 32 dX4_ask_30 rfl (Nat.le_of_ble_eq_true rfl) rfl ?_
          refine rn_iconst 33 dX4_ask_32 rfl ic_0 ?_
          refine rn_istore (lv' := [(0, .ref (ad G o)), (1, .int x1), (2, .int x2), (3, .int (-1)), (4, .int (-1)), (5, .int 0)]) 35 dX4_ask_33 rfl (Nat.le_of_ble_eq_true rfl) rfl ?_
          refine TL_X4_ask_35 ?_ FU _ _ _ hf
          intro y6 y7 y8 hf
          refine rn_iload_n 76 dX4_ask_75 rfl rfl ?_
          refine ro_if_ne 83 79 dX4_ask_76 rfl rfl hf (fun hf => ?_) (fun hf => ?_)
          · refine rn_iload 85 dX4_ask_83 rfl rfl ?_
            exact rn_iret .int dX4_ask_85 rfl rfl (Or.inl rfl) (ok_some hf :)
          · refine rn_iload_n 80 dX4_ask_79 rfl rfl ?_
            refine rn_goto 85 dX4_ask_80 rfl ?_
            exact rn_iret .int dX4_ask_85 rfl rfl (Or.inl rfl) (ok_some hf :)
        · refine rn_bipush 21 dX4_ask_19 rfl bp_m3 ?_
          exact rn_iret .int dX4_ask_21 rfl rfl (Or.inl rfl) (ok_some hf :)
