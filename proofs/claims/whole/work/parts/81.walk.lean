theorem T_X2_clear {G : WG} {post : PO} {h : AH} {o : Nat} (hf : OkA (F_X2_clear h o) (fun q => post none q)) : Rn G M_X2_clear (0, 0) 0 [(0, .ref (ad G o))] [] h post := by
  obtain ⟨_, hf⟩ := ok_ck2 hf
  refine rn_aload_n 1 dX2_clear_0 rfl rfl ?_
  refine rn_iconst 2 dX2_clear_1 rfl ic_0 ?_
  refine ro_ptI 5 dX2_clear_2 rfl f_X2_36 pn_2_0 ft_2_0 rfl rfl hf (fun h1 hf => ?_)
  refine rn_aload_n 6 dX2_clear_5 rfl rfl ?_
  refine rn_iconst 7 dX2_clear_6 rfl ic_0 ?_
  refine ro_ptI 10 dX2_clear_7 rfl f_X2_40 pn_2_1 ft_2_1 rfl rfl hf (fun h2 hf => ?_)
  refine rn_aload_n 11 dX2_clear_10 rfl rfl ?_
  refine ro_cVv (M' := M_X2_clearNews) (As := []) (o := o) (st := []) 14 (0, 0) dX2_clear_11 rfl l_X2_43 v_X2_clearNews ⟨Nat.le_of_ble_eq_true rfl, Nat.le_of_ble_eq_true rfl⟩ rfl rfl (Nat.le_of_ble_eq_true rfl) (Nat.le_of_ble_eq_true rfl) ⟨rfl, Nat.le_of_ble_eq_true rfl, Nat.le_of_ble_eq_true rfl⟩ hf (fun X z => ok_ck z) rfl (fun X z => T_X2_clearNews z) (fun h3 hf => ?_)
  exact rn_vret dX2_clear_14 rfl (Or.inl rfl) (ok_some hf :)
theorem TL_X1_nextNumber_49 {G : WG} {post : PO} {β : Type} {P : β → Prop} {h : AH} {o0 : Nat} {x1 : Int32} {x2 : Int32} {k : Int32 → Int32 → Option (β)} (hk : ∀ (x3 : Int32) (x4 : Int32), OkA (k x3 x4) P → Rn G M_X1_nextNumber (0, 0) 80 [(0, .ref (ad G o0)), (1, .int x1), (2, .int x2), (3, .int x3), (4, .int x4)] [] h post) : ∀ (n : Nat) (x3 : Int32) (x4 : Int32), OkA (L_X1_nextNumber_49 h o0 x1 x2 k n x3 x4) P → Rn G M_X1_nextNumber (0, 0) 49 [(0, .ref (ad G o0)), (1, .int x1), (2, .int x2), (3, .int x3), (4, .int x4)] [] h post := by
  intro n
  induction n with
  | zero => intro _ _ hf; exact absurd hf ok_none
  | succ n ih =>
    intro x3 x4 hf
    refine rn_iload 51 dX1_nextNumber_49 rfl rfl ?_
    refine rn_aload_n 52 dX1_nextNumber_51 rfl rfl ?_
    refine ro_gtI 55 dX1_nextNumber_52 rfl f_X1_22 ft_1_4 hf (fun v1 hf => ?_)
    refine ro_icmp_ge 80 58 dX1_nextNumber_55 rfl rfl hf (fun hf => ?_) (fun hf => ?_)
    · exact hk _ _ hf
    · refine rn_bipush 60 dX1_nextNumber_58 rfl bp_10 ?_
      refine rn_iload_n 61 dX1_nextNumber_60 rfl rfl ?_
      refine rn_imul 62 dX1_nextNumber_61 rfl ?_
      refine rn_aload_n 63 dX1_nextNumber_62 rfl rfl ?_
      refine ro_gtR 66 dX1_nextNumber_63 rfl f_X1_9 ft_1_0 hf (fun r2 hf => ?_)
      refine rn_iload 68 dX1_nextNumber_66 rfl rfl ?_
      refine ro_caload 69 dX1_nextNumber_68 rfl hf (fun v3 hf => ?_)
      refine rn_bipush 71 dX1_nextNumber_69 rfl bp_48 ?_
      refine rn_isub 72 dX1_nextNumber_71 rfl ?_
      refine rn_iadd 73 dX1_nextNumber_72 rfl ?_
      refine rn_istore_n (lv' := [(0, .ref (ad G o0)), (1, .int x1), (2, .int x2), (3, .int ((10 * x3) + (v3 - 48))), (4, .int x4)]) 74 dX1_nextNumber_73 rfl (Nat.le_of_ble_eq_true rfl) rfl ?_
      refine rn_iinc (lv' := [(0, .ref (ad G o0)), (1, .int x1), (2, .int x2), (3, .int ((10 * x3) + (v3 - 48))), (4, .int (x4 + 1))]) 77 dX1_nextNumber_74 rfl (Nat.le_of_ble_eq_true rfl) rfl (inc_1 _) rfl ?_
      refine rn_goto 49 dX1_nextNumber_77 rfl ?_
      exact ih _ _ hf
theorem T_X1_nextNumber {G : WG} {post : PO} {h : AH} {o : Nat} {x1 : Int32} (hf : OkA (F_X1_nextNumber h o x1) (fun q => post (some q.1) q.2)) : Rn G M_X1_nextNumber (0, 0) 0 [(0, .ref (ad G o)), (1, .int x1)] [] h post := by
  obtain ⟨_, hf⟩ := ok_ck2 hf
  refine rn_aload_n 1 dX1_nextNumber_0 rfl rfl ?_
  refine ro_cVv (M' := M_X1_nextToken) (As := []) (o := o) (st := []) 4 (0, 0) dX1_nextNumber_1 rfl l_X1_32 v_X1_nextToken ⟨Nat.le_of_ble_eq_true rfl, Nat.le_of_ble_eq_true rfl⟩ rfl rfl (Nat.le_of_ble_eq_true rfl) (Nat.le_of_ble_eq_true rfl) ⟨rfl, Nat.le_of_ble_eq_true rfl, Nat.le_of_ble_eq_true rfl⟩ hf (fun X z => ok_ck z) rfl (fun X z => T_X1_nextToken z) (fun h1 hf => ?_)
  refine rn_aload_n 5 dX1_nextNumber_4 rfl rfl ?_
  refine ro_gtI 8 dX1_nextNumber_5 rfl f_X1_22 ft_1_4 hf (fun v2 hf => ?_)
  refine rn_aload_n 9 dX1_nextNumber_8 rfl rfl ?_
  refine ro_gtI 12 dX1_nextNumber_9 rfl f_X1_29 ft_1_3 hf (fun v3 hf => ?_)
  refine rn_isub 13 dX1_nextNumber_12 rfl ?_
  refine rn_istore_n (lv' := [(0, .ref (ad G o)), (1, .int x1), (2, .int (v2 - v3))]) 14 dX1_nextNumber_13 rfl (Nat.le_of_ble_eq_true rfl) rfl ?_
  refine rn_iload_n 15 dX1_nextNumber_14 rfl rfl ?_
  refine rn_iconst 16 dX1_nextNumber_15 rfl ic_1 ?_
  refine ro_icmp_lt 39 19 dX1_nextNumber_16 rfl rfl hf (fun hf => ?_) (fun hf => ?_)
  · refine rn_iconst 40 dX1_nextNumber_39 rfl ic_m1 ?_
    exact rn_iret .int dX1_nextNumber_40 rfl rfl (Or.inl rfl) (ok_some hf :)
  · refine rn_iload_n 20 dX1_nextNumber_19 rfl rfl ?_
    refine rn_iconst 21 dX1_nextNumber_20 rfl ic_2 ?_
    refine ro_icmp_gt 39 24 dX1_nextNumber_21 rfl rfl hf (fun hf => ?_) (fun hf => ?_)
    · refine rn_iconst 40 dX1_nextNumber_39 rfl ic_m1 ?_
      exact rn_iret .int dX1_nextNumber_40 rfl rfl (Or.inl rfl) (ok_some hf :)
    · refine rn_aload_n 25 dX1_nextNumber_24 rfl rfl ?_
      refine ro_gtR 28 dX1_nextNumber_25 rfl f_X1_9 ft_1_0 hf (fun r4 hf => ?_)
      refine rn_aload_n 29 dX1_nextNumber_28 rfl rfl ?_
      refine ro_gtI 32 dX1_nextNumber_29 rfl f_X1_29 ft_1_3 hf (fun v5 hf => ?_)
      refine ro_caload 33 dX1_nextNumber_32 rfl hf (fun v6 hf => ?_)
      refine ro_cSp (M' := M_X1_isDigit) (As := [.int v6]) (st := []) 36 (0, 0) dX1_nextNumber_33 rfl l_X1_106 v_X1_isDigit ⟨Nat.le_of_ble_eq_true rfl, Nat.le_of_ble_eq_true rfl⟩ rfl rfl (Nat.le_of_ble_eq_true rfl) (Nat.le_of_ble_eq_true rfl) ⟨rfl, Nat.le_of_ble_eq_true rfl, Nat.le_of_ble_eq_true rfl⟩ hf (fun X z => T_X1_isDigit z) (fun v7 hf => ?_)
      refine ro_if_ne 41 39 dX1_nextNumber_36 rfl rfl hf (fun hf => ?_) (fun hf => ?_)
      · refine rn_iconst 42 dX1_nextNumber_41 rfl ic_0 ?_
        refine rn_istore_n (lv' := [(0, .ref (ad G o)), (1, .int x1), (2, .int (v2 - v3)), (3, .int 0)]) 43 dX1_nextNumber_42 rfl (Nat.le_of_ble_eq_true rfl) rfl ?_
        refine rn_aload_n 44 dX1_nextNumber_43 rfl rfl ?_
        refine ro_gtI 47 dX1_nextNumber_44 rfl f_X1_29 ft_1_3 hf (fun v8 hf => ?_)
        refine rn_istore (lv' := [(0, .ref (ad G o)), (1, .int x1), (2, .int (v2 - v3)), (3, .int 0), (4, .int v8)]) 49 dX1_nextNumber_47 rfl (Nat.le_of_ble_eq_true rfl) rfl ?_
        refine TL_X1_nextNumber_49 ?_ FU _ _ hf
        intro y9 y10 hf
        refine rn_iload_n 81 dX1_nextNumber_80 rfl rfl ?_
        refine rn_iload_n 82 dX1_nextNumber_81 rfl rfl ?_
        refine ro_icmp_gt 89 85 dX1_nextNumber_82 rfl rfl hf (fun hf => ?_) (fun hf => ?_)
        · refine rn_iconst 90 dX1_nextNumber_89 rfl ic_m1 ?_
          exact rn_iret .int dX1_nextNumber_90 rfl rfl (Or.inl rfl) (ok_some hf :)
        · refine rn_iload_n 86 dX1_nextNumber_85 rfl rfl ?_
          refine rn_goto 90 dX1_nextNumber_86 rfl ?_
          exact rn_iret .int dX1_nextNumber_90 rfl rfl (Or.inl rfl) (ok_some hf :)
      · refine rn_iconst 40 dX1_nextNumber_39 rfl ic_m1 ?_
        exact rn_iret .int dX1_nextNumber_40 rfl rfl (Or.inl rfl) (ok_some hf :)
theorem T_X2_addPlace {G : WG} {post : PO} {h : AH} {o : Nat} {x1 : Int32} {x2 : Int32} {x3 : Int32} (hf : OkA (F_X2_addPlace h o x1 x2 x3) (fun q => post none q)) : Rn G M_X2_addPlace (0, 0) 0 [(0, .ref (ad G o)), (1, .int x1), (2, .int x2), (3, .int x3)] [] h post := by
  obtain ⟨_, hf⟩ := ok_ck2 hf
  refine rn_aload_n 1 dX2_addPlace_0 rfl rfl ?_
  refine ro_gtI 4 dX2_addPlace_1 rfl f_X2_36 ft_2_0 hf (fun v1 hf => ?_)
  refine rn_bipush 6 dX2_addPlace_4 rfl bp_8 ?_
  refine ro_icmp_lt 10 9 dX2_addPlace_6 rfl rfl hf (fun hf => ?_) (fun hf => ?_)
  · refine rn_aload_n 11 dX2_addPlace_10 rfl rfl ?_
    refine ro_gtR 14 dX2_addPlace_11 rfl f_X2_9 ft_2_2 hf (fun r2 hf => ?_)
    refine rn_aload_n 15 dX2_addPlace_14 rfl rfl ?_
    refine ro_gtI 18 dX2_addPlace_15 rfl f_X2_36 ft_2_0 hf (fun v3 hf => ?_)
    refine rn_iload_n 19 dX2_addPlace_18 rfl rfl ?_
    refine ro_iastore 20 dX2_addPlace_19 rfl hf (fun h4 hf => ?_)
    refine rn_aload_n 21 dX2_addPlace_20 rfl rfl ?_
    refine ro_gtR 24 dX2_addPlace_21 rfl f_X2_15 ft_2_3 hf (fun r5 hf => ?_)
    refine rn_aload_n 25 dX2_addPlace_24 rfl rfl ?_
    refine ro_gtI 28 dX2_addPlace_25 rfl f_X2_36 ft_2_0 hf (fun v6 hf => ?_)
    refine rn_iload_n 29 dX2_addPlace_28 rfl rfl ?_
    refine ro_iastore 30 dX2_addPlace_29 rfl hf (fun h7 hf => ?_)
    refine rn_aload_n 31 dX2_addPlace_30 rfl rfl ?_
    refine ro_gtR 34 dX2_addPlace_31 rfl f_X2_18 ft_2_4 hf (fun r8 hf => ?_)
    refine rn_aload_n 35 dX2_addPlace_34 rfl rfl ?_
    refine ro_gtI 38 dX2_addPlace_35 rfl f_X2_36 ft_2_0 hf (fun v9 hf => ?_)
    refine rn_iload_n 39 dX2_addPlace_38 rfl rfl ?_
    refine ro_iastore 40 dX2_addPlace_39 rfl hf (fun h10 hf => ?_)
    refine rn_aload_n 41 dX2_addPlace_40 rfl rfl ?_
    refine rn_dup 42 dX2_addPlace_41 rfl rfl ?_
    refine ro_gtI 45 dX2_addPlace_42 rfl f_X2_36 ft_2_0 hf (fun v11 hf => ?_)
    refine rn_iconst 46 dX2_addPlace_45 rfl ic_1 ?_
    refine rn_iadd 47 dX2_addPlace_46 rfl ?_
    refine ro_ptI 50 dX2_addPlace_47 rfl f_X2_36 pn_2_0 ft_2_0 rfl rfl hf (fun h12 hf => ?_)
    exact rn_vret dX2_addPlace_50 rfl (Or.inl rfl) (ok_some hf :)
  · exact rn_vret dX2_addPlace_9 rfl (Or.inl rfl) (ok_some hf :)
theorem T_X1_readPlace {G : WG} {post : PO} {h : AH} {o : Nat} {o1 : Nat} (hf : OkA (F_X1_readPlace h o o1) (fun q => post (some q.1) q.2)) : Rn G M_X1_readPlace (0, 0) 0 [(0, .ref (ad G o)), (1, .ref (ad G o1))] [] h post := by
  obtain ⟨_, hf⟩ := ok_ck2 hf
  refine rn_aload_n 1 dX1_readPlace_0 rfl rfl ?_
  refine rn_bipush 3 dX1_readPlace_1 rfl bp_7 ?_
  refine ro_cVi (M' := M_X1_nextNumber) (As := [.int 7]) (o := o) (st := []) 6 (0, 0) dX1_readPlace_3 rfl l_X1_75 v_X1_nextNumber ⟨Nat.le_of_ble_eq_true rfl, Nat.le_of_ble_eq_true rfl⟩ rfl rfl (Nat.le_of_ble_eq_true rfl) (Nat.le_of_ble_eq_true rfl) ⟨rfl, Nat.le_of_ble_eq_true rfl, Nat.le_of_ble_eq_true rfl⟩ hf (fun X z => ok_ck z) rfl (fun X z => T_X1_nextNumber z) (fun q1 hf => ?_)
  refine rn_istore_n (lv' := [(0, .ref (ad G o)), (1, .ref (ad G o1)), (2, .int q1.1)]) 7 dX1_readPlace_6 rfl (Nat.le_of_ble_eq_true rfl) rfl ?_
  refine rn_iload_n 8 dX1_readPlace_7 rfl rfl ?_
  refine rn_iconst 9 dX1_readPlace_8 rfl ic_m1 ?_
  refine ro_icmp_ne 14 12 dX1_readPlace_9 rfl rfl hf (fun hf => ?_) (fun hf => ?_)
  · refine rn_aload_n 15 dX1_readPlace_14 rfl rfl ?_
    refine rn_bipush 17 dX1_readPlace_15 rfl bp_9 ?_
    refine ro_cVi (M' := M_X1_nextNumber) (As := [.int 9]) (o := o) (st := []) 20 (0, 0) dX1_readPlace_17 rfl l_X1_75 v_X1_nextNumber ⟨Nat.le_of_ble_eq_true rfl, Nat.le_of_ble_eq_true rfl⟩ rfl rfl (Nat.le_of_ble_eq_true rfl) (Nat.le_of_ble_eq_true rfl) ⟨rfl, Nat.le_of_ble_eq_true rfl, Nat.le_of_ble_eq_true rfl⟩ hf (fun X z => ok_ck z) rfl (fun X z => T_X1_nextNumber z) (fun q2 hf => ?_)
    refine rn_istore_n (lv' := [(0, .ref (ad G o)), (1, .ref (ad G o1)), (2, .int q1.1), (3, .int q2.1)]) 21 dX1_readPlace_20 rfl (Nat.le_of_ble_eq_true rfl) rfl ?_
    refine rn_iload_n 22 dX1_readPlace_21 rfl rfl ?_
    refine rn_iconst 23 dX1_readPlace_22 rfl ic_m1 ?_
    refine ro_icmp_ne 28 26 dX1_readPlace_23 rfl rfl hf (fun hf => ?_) (fun hf => ?_)
    · refine rn_aload_n 29 dX1_readPlace_28 rfl rfl ?_
      refine rn_bipush 31 dX1_readPlace_29 rfl bp_9 ?_
      refine ro_cVi (M' := M_X1_nextNumber) (As := [.int 9]) (o := o) (st := []) 34 (0, 0) dX1_readPlace_31 rfl l_X1_75 v_X1_nextNumber ⟨Nat.le_of_ble_eq_true rfl, Nat.le_of_ble_eq_true rfl⟩ rfl rfl (Nat.le_of_ble_eq_true rfl) (Nat.le_of_ble_eq_true rfl) ⟨rfl, Nat.le_of_ble_eq_true rfl, Nat.le_of_ble_eq_true rfl⟩ hf (fun X z => ok_ck z) rfl (fun X z => T_X1_nextNumber z) (fun q3 hf => ?_)
      refine rn_istore (lv' := [(0, .ref (ad G o)), (1, .ref (ad G o1)), (2, .int q1.1), (3, .int q2.1), (4, .int q3.1)]) 36 dX1_readPlace_34 rfl (Nat.le_of_ble_eq_true rfl) rfl ?_
      refine rn_iload 38 dX1_readPlace_36 rfl rfl ?_
      refine rn_iconst 39 dX1_readPlace_38 rfl ic_m1 ?_
      refine ro_icmp_ne 44 42 dX1_readPlace_39 rfl rfl hf (fun hf => ?_) (fun hf => ?_)
      · refine rn_aload_n 45 dX1_readPlace_44 rfl rfl ?_
        refine rn_iload_n 46 dX1_readPlace_45 rfl rfl ?_
        refine rn_iload_n 47 dX1_readPlace_46 rfl rfl ?_
        refine rn_iload 49 dX1_readPlace_47 rfl rfl ?_
        refine ro_cVv (M' := M_X2_addPlace) (As := [.int q1.1, .int q2.1, .int q3.1]) (o := o1) (st := []) 52 (0, 0) dX1_readPlace_49 rfl l_X1_79 v_X2_addPlace ⟨Nat.le_of_ble_eq_true rfl, Nat.le_of_ble_eq_true rfl⟩ rfl rfl (Nat.le_of_ble_eq_true rfl) (Nat.le_of_ble_eq_true rfl) ⟨rfl, Nat.le_of_ble_eq_true rfl, Nat.le_of_ble_eq_true rfl⟩ hf (fun X z => ok_ck z) rfl (fun X z => T_X2_addPlace z) (fun h4 hf => ?_)
        refine rn_iconst 53 dX1_readPlace_52 rfl ic_1 ?_
        exact rn_iret .boolean dX1_readPlace_53 rfl rfl (Or.inl rfl) (ok_some hf :)
      · refine rn_iconst 43 dX1_readPlace_42 rfl ic_0 ?_
        exact rn_iret .boolean dX1_readPlace_43 rfl rfl (Or.inl rfl) (ok_some hf :)
    · refine rn_iconst 27 dX1_readPlace_26 rfl ic_0 ?_
      exact rn_iret .boolean dX1_readPlace_27 rfl rfl (Or.inl rfl) (ok_some hf :)
  · refine rn_iconst 13 dX1_readPlace_12 rfl ic_0 ?_
    exact rn_iret .boolean dX1_readPlace_13 rfl rfl (Or.inl rfl) (ok_some hf :)
theorem T_X1_readNews {G : WG} {post : PO} {h : AH} {o : Nat} {o1 : Nat} (hf : OkA (F_X1_readNews h o o1) (fun q => post (some q.1) q.2)) : Rn G M_X1_readNews (0, 0) 0 [(0, .ref (ad G o)), (1, .ref (ad G o1))] [] h post := by
  obtain ⟨_, hf⟩ := ok_ck2 hf
  refine rn_aload_n 1 dX1_readNews_0 rfl rfl ?_
  refine rn_bipush 3 dX1_readNews_1 rfl bp_13 ?_
  refine ro_cVi (M' := M_X1_nextNumber) (As := [.int 13]) (o := o) (st := []) 6 (0, 0) dX1_readNews_3 rfl l_X1_75 v_X1_nextNumber ⟨Nat.le_of_ble_eq_true rfl, Nat.le_of_ble_eq_true rfl⟩ rfl rfl (Nat.le_of_ble_eq_true rfl) (Nat.le_of_ble_eq_true rfl) ⟨rfl, Nat.le_of_ble_eq_true rfl, Nat.le_of_ble_eq_true rfl⟩ hf (fun X z => ok_ck z) rfl (fun X z => T_X1_nextNumber z) (fun q1 hf => ?_)
  refine rn_istore_n (lv' := [(0, .ref (ad G o)), (1, .ref (ad G o1)), (2, .int q1.1)]) 7 dX1_readNews_6 rfl (Nat.le_of_ble_eq_true rfl) rfl ?_
  refine rn_iload_n 8 dX1_readNews_7 rfl rfl ?_
  refine rn_iconst 9 dX1_readNews_8 rfl ic_m1 ?_
  refine ro_icmp_ne 14 12 dX1_readNews_9 rfl rfl hf (fun hf => ?_) (fun hf => ?_)
  · refine rn_aload_n 15 dX1_readNews_14 rfl rfl ?_
    refine rn_bipush 17 dX1_readNews_15 rfl bp_7 ?_
    refine ro_cVi (M' := M_X1_nextNumber) (As := [.int 7]) (o := o) (st := []) 20 (0, 0) dX1_readNews_17 rfl l_X1_75 v_X1_nextNumber ⟨Nat.le_of_ble_eq_true rfl, Nat.le_of_ble_eq_true rfl⟩ rfl rfl (Nat.le_of_ble_eq_true rfl) (Nat.le_of_ble_eq_true rfl) ⟨rfl, Nat.le_of_ble_eq_true rfl, Nat.le_of_ble_eq_true rfl⟩ hf (fun X z => ok_ck z) rfl (fun X z => T_X1_nextNumber z) (fun q2 hf => ?_)
    refine rn_istore_n (lv' := [(0, .ref (ad G o)), (1, .ref (ad G o1)), (2, .int q1.1), (3, .int q2.1)]) 21 dX1_readNews_20 rfl (Nat.le_of_ble_eq_true rfl) rfl ?_
    refine rn_iload_n 22 dX1_readNews_21 rfl rfl ?_
    refine rn_iconst 23 dX1_readNews_22 rfl ic_m1 ?_
    refine ro_icmp_ne 28 26 dX1_readNews_23 rfl rfl hf (fun hf => ?_) (fun hf => ?_)
    · refine rn_aload_n 29 dX1_readNews_28 rfl rfl ?_
      refine ro_gtR 32 dX1_readNews_29 rfl f_X1_83 ft_2_7 hf (fun r3 hf => ?_)
      refine rn_iload_n 33 dX1_readNews_32 rfl rfl ?_
      refine rn_iload_n 34 dX1_readNews_33 rfl rfl ?_
      refine ro_iastore 35 dX1_readNews_34 rfl hf (fun h4 hf => ?_)
      refine rn_iconst 36 dX1_readNews_35 rfl ic_1 ?_
      exact rn_iret .boolean dX1_readNews_36 rfl rfl (Or.inl rfl) (ok_some hf :)
    · refine rn_iconst 27 dX1_readNews_26 rfl ic_0 ?_
      exact rn_iret .boolean dX1_readNews_27 rfl rfl (Or.inl rfl) (ok_some hf :)
  · refine rn_iconst 13 dX1_readNews_12 rfl ic_0 ?_
    exact rn_iret .boolean dX1_readNews_13 rfl rfl (Or.inl rfl) (ok_some hf :)
theorem T_X1_kindRead {G : WG} {post : PO} {h : AH} {o : Nat} (hf : OkA (F_X1_kindRead h o) (fun q => post (some q) h)) : Rn G M_X1_kindRead (0, 0) 0 [(0, .ref (ad G o))] [] h post := by
  obtain ⟨_, hf⟩ := ok_ck2 hf
  refine rn_aload_n 1 dX1_kindRead_0 rfl rfl ?_
  refine rn_ldcS 3 4 dX1_kindRead_1 rfl (by decide) rfl ?_
  refine ro_cVp (M' := M_X1_reads) (As := [.ref (gK G 4)]) (o := o) (st := []) 6 (0, 0) dX1_kindRead_3 rfl l_X1_37 v_X1_reads ⟨Nat.le_of_ble_eq_true rfl, Nat.le_of_ble_eq_true rfl⟩ rfl rfl (Nat.le_of_ble_eq_true rfl) (Nat.le_of_ble_eq_true rfl) ⟨rfl, Nat.le_of_ble_eq_true rfl, Nat.le_of_ble_eq_true rfl⟩ hf (fun X z => ok_ck z) rfl (fun X z => T_X1_reads (by decide) z) (fun v1 hf => ?_)
  refine ro_if_eq 11 9 dX1_kindRead_6 rfl rfl hf (fun hf => ?_) (fun hf => ?_)
  · refine rn_aload_n 12 dX1_kindRead_11 rfl rfl ?_
    refine rn_ldcS 14 5 dX1_kindRead_12 rfl (by decide) rfl ?_
    refine ro_cVp (M' := M_X1_reads) (As := [.ref (gK G 5)]) (o := o) (st := []) 17 (0, 0) dX1_kindRead_14 rfl l_X1_37 v_X1_reads ⟨Nat.le_of_ble_eq_true rfl, Nat.le_of_ble_eq_true rfl⟩ rfl rfl (Nat.le_of_ble_eq_true rfl) (Nat.le_of_ble_eq_true rfl) ⟨rfl, Nat.le_of_ble_eq_true rfl, Nat.le_of_ble_eq_true rfl⟩ hf (fun X z => ok_ck z) rfl (fun X z => T_X1_reads (by decide) z) (fun v2 hf => ?_)
    refine ro_if_eq 22 20 dX1_kindRead_17 rfl rfl hf (fun hf => ?_) (fun hf => ?_)
    · refine rn_aload_n 23 dX1_kindRead_22 rfl rfl ?_
      refine rn_ldcS 25 6 dX1_kindRead_23 rfl (by decide) rfl ?_
      refine ro_cVp (M' := M_X1_reads) (As := [.ref (gK G 6)]) (o := o) (st := []) 28 (0, 0) dX1_kindRead_25 rfl l_X1_37 v_X1_reads ⟨Nat.le_of_ble_eq_true rfl, Nat.le_of_ble_eq_true rfl⟩ rfl rfl (Nat.le_of_ble_eq_true rfl) (Nat.le_of_ble_eq_true rfl) ⟨rfl, Nat.le_of_ble_eq_true rfl, Nat.le_of_ble_eq_true rfl⟩ hf (fun X z => ok_ck z) rfl (fun X z => T_X1_reads (by decide) z) (fun v3 hf => ?_)
      refine ro_if_eq 33 31 dX1_kindRead_28 rfl rfl hf (fun hf => ?_) (fun hf => ?_)
      · refine rn_aload_n 34 dX1_kindRead_33 rfl rfl ?_
        refine rn_ldcS 36 7 dX1_kindRead_34 rfl (by decide) rfl ?_
        refine ro_cVp (M' := M_X1_reads) (As := [.ref (gK G 7)]) (o := o) (st := []) 39 (0, 0) dX1_kindRead_36 rfl l_X1_37 v_X1_reads ⟨Nat.le_of_ble_eq_true rfl, Nat.le_of_ble_eq_true rfl⟩ rfl rfl (Nat.le_of_ble_eq_true rfl) (Nat.le_of_ble_eq_true rfl) ⟨rfl, Nat.le_of_ble_eq_true rfl, Nat.le_of_ble_eq_true rfl⟩ hf (fun X z => ok_ck z) rfl (fun X z => T_X1_reads (by decide) z) (fun v4 hf => ?_)
        refine ro_if_eq 46 42 dX1_kindRead_39 rfl rfl hf (fun hf => ?_) (fun hf => ?_)
        · refine rn_iconst 47 dX1_kindRead_46 rfl ic_m1 ?_
          exact rn_iret .int dX1_kindRead_47 rfl rfl (Or.inl rfl) (ok_some hf :)
        · refine rn_iconst 43 dX1_kindRead_42 rfl ic_3 ?_
          refine rn_goto 47 dX1_kindRead_43 rfl ?_
          exact rn_iret .int dX1_kindRead_47 rfl rfl (Or.inl rfl) (ok_some hf :)
      · refine rn_iconst 32 dX1_kindRead_31 rfl ic_2 ?_
        exact rn_iret .int dX1_kindRead_32 rfl rfl (Or.inl rfl) (ok_some hf :)
    · refine rn_iconst 21 dX1_kindRead_20 rfl ic_1 ?_
      exact rn_iret .int dX1_kindRead_21 rfl rfl (Or.inl rfl) (ok_some hf :)
  · refine rn_iconst 10 dX1_kindRead_9 rfl ic_0 ?_
    exact rn_iret .int dX1_kindRead_10 rfl rfl (Or.inl rfl) (ok_some hf :)
theorem T_X2_addHen {G : WG} {post : PO} {h : AH} {o : Nat} {x1 : Int32} {x2 : Int32} (hf : OkA (F_X2_addHen h o x1 x2) (fun q => post none q)) : Rn G M_X2_addHen (0, 0) 0 [(0, .ref (ad G o)), (1, .int x1), (2, .int x2)] [] h post := by
  obtain ⟨_, hf⟩ := ok_ck2 hf
  refine rn_aload_n 1 dX2_addHen_0 rfl rfl ?_
  refine ro_gtI 4 dX2_addHen_1 rfl f_X2_40 ft_2_1 hf (fun v1 hf => ?_)
  refine rn_iconst 5 dX2_addHen_4 rfl ic_5 ?_
  refine ro_icmp_lt 9 8 dX2_addHen_5 rfl rfl hf (fun hf => ?_) (fun hf => ?_)
  · refine rn_aload_n 10 dX2_addHen_9 rfl rfl ?_
    refine ro_gtR 13 dX2_addHen_10 rfl f_X2_21 ft_2_5 hf (fun r2 hf => ?_)
    refine rn_aload_n 14 dX2_addHen_13 rfl rfl ?_
    refine ro_gtI 17 dX2_addHen_14 rfl f_X2_40 ft_2_1 hf (fun v3 hf => ?_)
    refine rn_iload_n 18 dX2_addHen_17 rfl rfl ?_
    refine ro_iastore 19 dX2_addHen_18 rfl hf (fun h4 hf => ?_)
    refine rn_aload_n 20 dX2_addHen_19 rfl rfl ?_
    refine ro_gtR 23 dX2_addHen_20 rfl f_X2_24 ft_2_6 hf (fun r5 hf => ?_)
    refine rn_aload_n 24 dX2_addHen_23 rfl rfl ?_
    refine ro_gtI 27 dX2_addHen_24 rfl f_X2_40 ft_2_1 hf (fun v6 hf => ?_)
    refine rn_iload_n 28 dX2_addHen_27 rfl rfl ?_
    refine ro_iastore 29 dX2_addHen_28 rfl hf (fun h7 hf => ?_)
    refine rn_aload_n 30 dX2_addHen_29 rfl rfl ?_
    refine rn_dup 31 dX2_addHen_30 rfl rfl ?_
    refine ro_gtI 34 dX2_addHen_31 rfl f_X2_40 ft_2_1 hf (fun v8 hf => ?_)
    refine rn_iconst 35 dX2_addHen_34 rfl ic_1 ?_
    refine rn_iadd 36 dX2_addHen_35 rfl ?_
    refine ro_ptI 39 dX2_addHen_36 rfl f_X2_40 pn_2_1 ft_2_1 rfl rfl hf (fun h9 hf => ?_)
    exact rn_vret dX2_addHen_39 rfl (Or.inl rfl) (ok_some hf :)
  · exact rn_vret dX2_addHen_8 rfl (Or.inl rfl) (ok_some hf :)
theorem T_X1_readHen {G : WG} {post : PO} {h : AH} {o : Nat} {o1 : Nat} {x2 : Int32} (hf : OkA (F_X1_readHen h o o1 x2) (fun q => post (some q.1) q.2)) : Rn G M_X1_readHen (0, 0) 0 [(0, .ref (ad G o)), (1, .ref (ad G o1)), (2, .int x2)] [] h post := by
  obtain ⟨_, hf⟩ := ok_ck2 hf
  refine rn_aload_n 1 dX1_readHen_0 rfl rfl ?_
  refine rn_bipush 3 dX1_readHen_1 rfl bp_9 ?_
  refine ro_cVi (M' := M_X1_nextNumber) (As := [.int 9]) (o := o) (st := []) 6 (0, 0) dX1_readHen_3 rfl l_X1_75 v_X1_nextNumber ⟨Nat.le_of_ble_eq_true rfl, Nat.le_of_ble_eq_true rfl⟩ rfl rfl (Nat.le_of_ble_eq_true rfl) (Nat.le_of_ble_eq_true rfl) ⟨rfl, Nat.le_of_ble_eq_true rfl, Nat.le_of_ble_eq_true rfl⟩ hf (fun X z => ok_ck z) rfl (fun X z => T_X1_nextNumber z) (fun q1 hf => ?_)
  refine rn_istore_n (lv' := [(0, .ref (ad G o)), (1, .ref (ad G o1)), (2, .int x2), (3, .int q1.1)]) 7 dX1_readHen_6 rfl (Nat.le_of_ble_eq_true rfl) rfl ?_
  refine rn_iload_n 8 dX1_readHen_7 rfl rfl ?_
  refine rn_iconst 9 dX1_readHen_8 rfl ic_m1 ?_
  refine ro_icmp_ne 14 12 dX1_readHen_9 rfl rfl hf (fun hf => ?_) (fun hf => ?_)
  · refine rn_aload_n 15 dX1_readHen_14 rfl rfl ?_
    refine rn_iload_n 16 dX1_readHen_15 rfl rfl ?_
    refine rn_iload_n 17 dX1_readHen_16 rfl rfl ?_
    refine ro_cVv (M' := M_X2_addHen) (As := [.int x2, .int q1.1]) (o := o1) (st := []) 20 (0, 0) dX1_readHen_17 rfl l_X1_86 v_X2_addHen ⟨Nat.le_of_ble_eq_true rfl, Nat.le_of_ble_eq_true rfl⟩ rfl rfl (Nat.le_of_ble_eq_true rfl) (Nat.le_of_ble_eq_true rfl) ⟨rfl, Nat.le_of_ble_eq_true rfl, Nat.le_of_ble_eq_true rfl⟩ hf (fun X z => ok_ck z) rfl (fun X z => T_X2_addHen z) (fun h2 hf => ?_)
    refine rn_iconst 21 dX1_readHen_20 rfl ic_1 ?_
    exact rn_iret .boolean dX1_readHen_21 rfl rfl (Or.inl rfl) (ok_some hf :)
  · refine rn_iconst 13 dX1_readHen_12 rfl ic_0 ?_
    exact rn_iret .boolean dX1_readHen_13 rfl rfl (Or.inl rfl) (ok_some hf :)
theorem T_X1_readClause {G : WG} {post : PO} {h : AH} {o : Nat} {o1 : Nat} (hf : OkA (F_X1_readClause h o o1) (fun q => post (some q.1) q.2)) : Rn G M_X1_readClause (0, 0) 0 [(0, .ref (ad G o)), (1, .ref (ad G o1))] [] h post := by
  obtain ⟨_, hf⟩ := ok_ck2 hf
  refine rn_aload_n 1 dX1_readClause_0 rfl rfl ?_
  refine ro_cVv (M' := M_X1_nextToken) (As := []) (o := o) (st := []) 4 (0, 0) dX1_readClause_1 rfl l_X1_32 v_X1_nextToken ⟨Nat.le_of_ble_eq_true rfl, Nat.le_of_ble_eq_true rfl⟩ rfl rfl (Nat.le_of_ble_eq_true rfl) (Nat.le_of_ble_eq_true rfl) ⟨rfl, Nat.le_of_ble_eq_true rfl, Nat.le_of_ble_eq_true rfl⟩ hf (fun X z => ok_ck z) rfl (fun X z => T_X1_nextToken z) (fun h1 hf => ?_)
  refine rn_aload_n 5 dX1_readClause_4 rfl rfl ?_
  refine rn_ldcS 7 0 dX1_readClause_5 rfl (by decide) rfl ?_
  refine ro_cVp (M' := M_X1_reads) (As := [.ref (gK G 0)]) (o := o) (st := []) 10 (0, 0) dX1_readClause_7 rfl l_X1_37 v_X1_reads ⟨Nat.le_of_ble_eq_true rfl, Nat.le_of_ble_eq_true rfl⟩ rfl rfl (Nat.le_of_ble_eq_true rfl) (Nat.le_of_ble_eq_true rfl) ⟨rfl, Nat.le_of_ble_eq_true rfl, Nat.le_of_ble_eq_true rfl⟩ hf (fun X z => ok_ck z) rfl (fun X z => T_X1_reads (by decide) z) (fun v2 hf => ?_)
  refine ro_if_eq 19 13 dX1_readClause_10 rfl rfl hf (fun hf => ?_) (fun hf => ?_)
  · refine rn_aload_n 20 dX1_readClause_19 rfl rfl ?_
    refine rn_ldcS 22 1 dX1_readClause_20 rfl (by decide) rfl ?_
    refine ro_cVp (M' := M_X1_reads) (As := [.ref (gK G 1)]) (o := o) (st := []) 25 (0, 0) dX1_readClause_22 rfl l_X1_37 v_X1_reads ⟨Nat.le_of_ble_eq_true rfl, Nat.le_of_ble_eq_true rfl⟩ rfl rfl (Nat.le_of_ble_eq_true rfl) (Nat.le_of_ble_eq_true rfl) ⟨rfl, Nat.le_of_ble_eq_true rfl, Nat.le_of_ble_eq_true rfl⟩ hf (fun X z => ok_ck z) rfl (fun X z => T_X1_reads (by decide) z) (fun v3 hf => ?_)
    refine ro_if_eq 34 28 dX1_readClause_25 rfl rfl hf (fun hf => ?_) (fun hf => ?_)
    · refine rn_aload_n 35 dX1_readClause_34 rfl rfl ?_
      refine rn_ldcS 37 2 dX1_readClause_35 rfl (by decide) rfl ?_
      refine ro_cVp (M' := M_X1_reads) (As := [.ref (gK G 2)]) (o := o) (st := []) 40 (0, 0) dX1_readClause_37 rfl l_X1_37 v_X1_reads ⟨Nat.le_of_ble_eq_true rfl, Nat.le_of_ble_eq_true rfl⟩ rfl rfl (Nat.le_of_ble_eq_true rfl) (Nat.le_of_ble_eq_true rfl) ⟨rfl, Nat.le_of_ble_eq_true rfl, Nat.le_of_ble_eq_true rfl⟩ hf (fun X z => ok_ck z) rfl (fun X z => T_X1_reads (by decide) z) (fun v4 hf => ?_)
      refine ro_if_eq 66 43 dX1_readClause_40 rfl rfl hf (fun hf => ?_) (fun hf => ?_)
      · refine rn_aload_n 67 dX1_readClause_66 rfl rfl ?_
        refine rn_ldcS 69 3 dX1_readClause_67 rfl (by decide) rfl ?_
        refine ro_cVp (M' := M_X1_reads) (As := [.ref (gK G 3)]) (o := o) (st := []) 72 (0, 0) dX1_readClause_69 rfl l_X1_37 v_X1_reads ⟨Nat.le_of_ble_eq_true rfl, Nat.le_of_ble_eq_true rfl⟩ rfl rfl (Nat.le_of_ble_eq_true rfl) (Nat.le_of_ble_eq_true rfl) ⟨rfl, Nat.le_of_ble_eq_true rfl, Nat.le_of_ble_eq_true rfl⟩ hf (fun X z => ok_ck z) rfl (fun X z => T_X1_reads (by decide) z) (fun v5 hf => ?_)
        refine ro_if_eq 81 75 dX1_readClause_72 rfl rfl hf (fun hf => ?_) (fun hf => ?_)
        · refine rn_aload_n 82 dX1_readClause_81 rfl rfl ?_
          refine ro_cVp (M' := M_X1_kindRead) (As := []) (o := o) (st := []) 85 (0, 0) dX1_readClause_82 rfl l_X1_64 v_X1_kindRead ⟨Nat.le_of_ble_eq_true rfl, Nat.le_of_ble_eq_true rfl⟩ rfl rfl (Nat.le_of_ble_eq_true rfl) (Nat.le_of_ble_eq_true rfl) ⟨rfl, Nat.le_of_ble_eq_true rfl, Nat.le_of_ble_eq_true rfl⟩ hf (fun X z => ok_ck z) rfl (fun X z => T_X1_kindRead z) (fun v6 hf => ?_)
          refine rn_istore_n (lv' := [(0, .ref (ad G o)), (1, .ref (ad G o1)), (2, .int v6)]) 86 dX1_readClause_85 rfl (Nat.le_of_ble_eq_true rfl) rfl ?_
          refine rn_iload_n 87 dX1_readClause_86 rfl rfl ?_
          refine rn_iconst 88 dX1_readClause_87 rfl ic_m1 ?_
          refine ro_icmp_eq 112 91 dX1_readClause_88 rfl rfl hf (fun hf => ?_) (fun hf => ?_)
          · refine rn_iconst 113 dX1_readClause_112 rfl ic_0 ?_
            exact rn_iret .boolean dX1_readClause_113 rfl rfl (Or.inl rfl) (ok_some hf :)
          · refine rn_aload_n 92 dX1_readClause_91 rfl rfl ?_
            refine ro_gtI 95 dX1_readClause_92 rfl f_X1_68 ft_2_1 hf (fun v7 hf => ?_)
            refine rn_iconst 96 dX1_readClause_95 rfl ic_5 ?_
            refine ro_icmp_ge 112 99 dX1_readClause_96 rfl rfl hf (fun hf => ?_) (fun hf => ?_)
            · refine rn_iconst 113 dX1_readClause_112 rfl ic_0 ?_
              exact rn_iret .boolean dX1_readClause_113 rfl rfl (Or.inl rfl) (ok_some hf :)
            · refine rn_aload_n 100 dX1_readClause_99 rfl rfl ?_
              refine rn_aload_n 101 dX1_readClause_100 rfl rfl ?_
              refine rn_iload_n 102 dX1_readClause_101 rfl rfl ?_
              refine ro_cVi (M' := M_X1_readHen) (As := [.ref (ad G o1), .int v6]) (o := o) (st := []) 105 (0, 0) dX1_readClause_102 rfl l_X1_71 v_X1_readHen ⟨Nat.le_of_ble_eq_true rfl, Nat.le_of_ble_eq_true rfl⟩ rfl rfl (Nat.le_of_ble_eq_true rfl) (Nat.le_of_ble_eq_true rfl) ⟨rfl, Nat.le_of_ble_eq_true rfl, Nat.le_of_ble_eq_true rfl⟩ hf (fun X z => ok_ck z) rfl (fun X z => T_X1_readHen z) (fun q8 hf => ?_)
              refine ro_if_eq 112 108 dX1_readClause_105 rfl rfl hf (fun hf => ?_) (fun hf => ?_)
              · refine rn_iconst 113 dX1_readClause_112 rfl ic_0 ?_
                exact rn_iret .boolean dX1_readClause_113 rfl rfl (Or.inl rfl) (ok_some hf :)
              · refine rn_iconst 109 dX1_readClause_108 rfl ic_1 ?_
                refine rn_goto 113 dX1_readClause_109 rfl ?_
                exact rn_iret .boolean dX1_readClause_113 rfl rfl (Or.inl rfl) (ok_some hf :)
        · refine rn_aload_n 76 dX1_readClause_75 rfl rfl ?_
          refine rn_aload_n 77 dX1_readClause_76 rfl rfl ?_
          refine ro_cVi (M' := M_X1_readNews) (As := [.ref (ad G o1)]) (o := o) (st := []) 80 (0, 0) dX1_readClause_77 rfl l_X1_61 v_X1_readNews ⟨Nat.le_of_ble_eq_true rfl, Nat.le_of_ble_eq_true rfl⟩ rfl rfl (Nat.le_of_ble_eq_true rfl) (Nat.le_of_ble_eq_true rfl) ⟨rfl, Nat.le_of_ble_eq_true rfl, Nat.le_of_ble_eq_true rfl⟩ hf (fun X z => ok_ck z) rfl (fun X z => T_X1_readNews z) (fun q9 hf => ?_)
          exact ro_zret dX1_readClause_80 rfl (Or.inl rfl) hf (fun v10 hf => (ok_some hf :))
      · refine rn_aload_n 44 dX1_readClause_43 rfl rfl ?_
        refine ro_gtI 47 dX1_readClause_44 rfl f_X1_53 ft_2_0 hf (fun v11 hf => ?_)
        refine rn_bipush 49 dX1_readClause_47 rfl bp_8 ?_
        refine ro_icmp_ge 64 52 dX1_readClause_49 rfl rfl hf (fun hf => ?_) (fun hf => ?_)
        · refine rn_iconst 65 dX1_readClause_64 rfl ic_0 ?_
          exact rn_iret .boolean dX1_readClause_65 rfl rfl (Or.inl rfl) (ok_some hf :)
        · refine rn_aload_n 53 dX1_readClause_52 rfl rfl ?_
          refine rn_aload_n 54 dX1_readClause_53 rfl rfl ?_
          refine ro_cVi (M' := M_X1_readPlace) (As := [.ref (ad G o1)]) (o := o) (st := []) 57 (0, 0) dX1_readClause_54 rfl l_X1_56 v_X1_readPlace ⟨Nat.le_of_ble_eq_true rfl, Nat.le_of_ble_eq_true rfl⟩ rfl rfl (Nat.le_of_ble_eq_true rfl) (Nat.le_of_ble_eq_true rfl) ⟨rfl, Nat.le_of_ble_eq_true rfl, Nat.le_of_ble_eq_true rfl⟩ hf (fun X z => ok_ck z) rfl (fun X z => T_X1_readPlace z) (fun q12 hf => ?_)
          refine ro_if_eq 64 60 dX1_readClause_57 rfl rfl hf (fun hf => ?_) (fun hf => ?_)
          · refine rn_iconst 65 dX1_readClause_64 rfl ic_0 ?_
            exact rn_iret .boolean dX1_readClause_65 rfl rfl (Or.inl rfl) (ok_some hf :)
          · refine rn_iconst 61 dX1_readClause_60 rfl ic_1 ?_
            refine rn_goto 65 dX1_readClause_61 rfl ?_
            exact rn_iret .boolean dX1_readClause_65 rfl rfl (Or.inl rfl) (ok_some hf :)
    · refine rn_aload_n 29 dX1_readClause_28 rfl rfl ?_
      refine ro_cVv (M' := M_X2_clearNews) (As := []) (o := o1) (st := []) 32 (0, 0) dX1_readClause_29 rfl l_X1_48 v_X2_clearNews ⟨Nat.le_of_ble_eq_true rfl, Nat.le_of_ble_eq_true rfl⟩ rfl rfl (Nat.le_of_ble_eq_true rfl) (Nat.le_of_ble_eq_true rfl) ⟨rfl, Nat.le_of_ble_eq_true rfl, Nat.le_of_ble_eq_true rfl⟩ hf (fun X z => ok_ck z) rfl (fun X z => T_X2_clearNews z) (fun h13 hf => ?_)
      refine rn_iconst 33 dX1_readClause_32 rfl ic_1 ?_
      exact rn_iret .boolean dX1_readClause_33 rfl rfl (Or.inl rfl) (ok_some hf :)
  · refine rn_aload_n 14 dX1_readClause_13 rfl rfl ?_
    refine ro_cVv (M' := M_X2_clear) (As := []) (o := o1) (st := []) 17 (0, 0) dX1_readClause_14 rfl l_X1_41 v_X2_clear ⟨Nat.le_of_ble_eq_true rfl, Nat.le_of_ble_eq_true rfl⟩ rfl rfl (Nat.le_of_ble_eq_true rfl) (Nat.le_of_ble_eq_true rfl) ⟨rfl, Nat.le_of_ble_eq_true rfl, Nat.le_of_ble_eq_true rfl⟩ hf (fun X z => ok_ck z) rfl (fun X z => T_X2_clear z) (fun h14 hf => ?_)
    refine rn_iconst 18 dX1_readClause_17 rfl ic_1 ?_
    exact rn_iret .boolean dX1_readClause_18 rfl rfl (Or.inl rfl) (ok_some hf :)
theorem TL_X1_readInto_12 {G : WG} {post : PO} {o0 : Nat} {o1 : Nat} {k : AH → Int32 → Option (Int32 × AH)} (hk : ∀ (h : AH) (x2 : Int32), OkA (k h x2) (fun q => post (some q.1) q.2) → Rn G M_X1_readInto (0, 0) 83 [(0, .ref (ad G o0)), (1, .ref (ad G o1)), (2, .int x2)] [] h post) : ∀ (n : Nat) (h : AH) (x2 : Int32), OkA (L_X1_readInto_12 o0 o1 k n h x2) (fun q => post (some q.1) q.2) → Rn G M_X1_readInto (0, 0) 12 [(0, .ref (ad G o0)), (1, .ref (ad G o1)), (2, .int x2)] [] h post := by
  intro n
  induction n with
  | zero => intro _ _ hf; exact absurd hf ok_none
  | succ n ih =>
    intro h x2 hf
    refine rn_iload_n 13 dX1_readInto_12 rfl rfl ?_
    refine rn_bipush 15 dX1_readInto_13 rfl bp_14 ?_
    refine ro_icmp_ge 83 18 dX1_readInto_15 rfl rfl hf (fun hf => ?_) (fun hf => ?_)
    · exact hk _ _ hf
    · refine rn_aload_n 19 dX1_readInto_18 rfl rfl ?_
      refine rn_aload_n 20 dX1_readInto_19 rfl rfl ?_
      refine ro_cVi (M' := M_X1_readClause) (As := [.ref (ad G o1)]) (o := o0) (st := []) 23 (0, 0) dX1_readInto_20 rfl l_X1_25 v_X1_readClause ⟨Nat.le_of_ble_eq_true rfl, Nat.le_of_ble_eq_true rfl⟩ rfl rfl (Nat.le_of_ble_eq_true rfl) (Nat.le_of_ble_eq_true rfl) ⟨rfl, Nat.le_of_ble_eq_true rfl, Nat.le_of_ble_eq_true rfl⟩ hf (fun X z => ok_ck z) rfl (fun X z => T_X1_readClause z) (fun q1 hf => ?_)
      refine ro_if_ne 31 26 dX1_readInto_23 rfl rfl hf (fun hf => ?_) (fun hf => ?_)
      · refine rn_aload_n 32 dX1_readInto_31 rfl rfl ?_
        refine rn_dup 33 dX1_readInto_32 rfl rfl ?_
        refine ro_gtI 36 dX1_readInto_33 rfl f_X1_19 ft_1_2 hf (fun v2 hf => ?_)
        refine rn_iconst 37 dX1_readInto_36 rfl ic_1 ?_
        refine rn_iadd 38 dX1_readInto_37 rfl ?_
        refine ro_ptI 41 dX1_readInto_38 rfl f_X1_19 pn_1_2 ft_1_2 rfl rfl hf (fun h3 hf => ?_)
        refine rn_aload_n 42 dX1_readInto_41 rfl rfl ?_
        refine ro_cVv (M' := M_X1_nextToken) (As := []) (o := o0) (st := []) 45 (0, 0) dX1_readInto_42 rfl l_X1_32 v_X1_nextToken ⟨Nat.le_of_ble_eq_true rfl, Nat.le_of_ble_eq_true rfl⟩ rfl rfl (Nat.le_of_ble_eq_true rfl) (Nat.le_of_ble_eq_true rfl) ⟨rfl, Nat.le_of_ble_eq_true rfl, Nat.le_of_ble_eq_true rfl⟩ hf (fun X z => ok_ck z) rfl (fun X z => T_X1_nextToken z) (fun h4 hf => ?_)
        refine rn_aload_n 46 dX1_readInto_45 rfl rfl ?_
        refine ro_gtI 49 dX1_readInto_46 rfl f_X1_29 ft_1_3 hf (fun v5 hf => ?_)
        refine rn_aload_n 50 dX1_readInto_49 rfl rfl ?_
        refine ro_gtI 53 dX1_readInto_50 rfl f_X1_15 ft_1_1 hf (fun v6 hf => ?_)
        refine ro_icmp_lt 58 56 dX1_readInto_53 rfl rfl hf (fun hf => ?_) (fun hf => ?_)
        · refine rn_aload_n 59 dX1_readInto_58 rfl rfl ?_
          refine ro_gtR 62 dX1_readInto_59 rfl f_X1_9 ft_1_0 hf (fun r7 hf => ?_)
          refine rn_aload_n 63 dX1_readInto_62 rfl rfl ?_
          refine ro_gtI 66 dX1_readInto_63 rfl f_X1_29 ft_1_3 hf (fun v8 hf => ?_)
          refine ro_caload 67 dX1_readInto_66 rfl hf (fun v9 hf => ?_)
          refine rn_bipush 69 dX1_readInto_67 rfl bp_59 ?_
          refine ro_icmp_eq 77 72 dX1_readInto_69 rfl rfl hf (fun hf => ?_) (fun hf => ?_)
          · refine rn_iinc (lv' := [(0, .ref (ad G o0)), (1, .ref (ad G o1)), (2, .int (x2 + 1))]) 80 dX1_readInto_77 rfl (Nat.le_of_ble_eq_true rfl) rfl (inc_1 _) rfl ?_
            refine rn_goto 12 dX1_readInto_80 rfl ?_
            exact ih _ _ hf
          · refine rn_aload_n 73 dX1_readInto_72 rfl rfl ?_
            refine ro_gtI 76 dX1_readInto_73 rfl f_X1_29 ft_1_3 hf (fun v10 hf => ?_)
            exact rn_iret .int dX1_readInto_76 rfl rfl (Or.inl rfl) (ok_some hf :)
        · refine rn_iconst 57 dX1_readInto_56 rfl ic_m1 ?_
          exact rn_iret .int dX1_readInto_57 rfl rfl (Or.inl rfl) (ok_some hf :)
      · refine rn_aload_n 27 dX1_readInto_26 rfl rfl ?_
        refine ro_gtI 30 dX1_readInto_27 rfl f_X1_29 ft_1_3 hf (fun v11 hf => ?_)
        exact rn_iret .int dX1_readInto_30 rfl rfl (Or.inl rfl) (ok_some hf :)
theorem T_X1_readInto {G : WG} {post : PO} {h : AH} {o : Nat} {o1 : Nat} (hf : OkA (F_X1_readInto h o o1) (fun q => post (some q.1) q.2)) : Rn G M_X1_readInto (0, 0) 0 [(0, .ref (ad G o)), (1, .ref (ad G o1))] [] h post := by
  obtain ⟨_, hf⟩ := ok_ck2 hf
  refine rn_aload_n 1 dX1_readInto_0 rfl rfl ?_
  refine rn_iconst 2 dX1_readInto_1 rfl ic_0 ?_
  refine ro_ptI 5 dX1_readInto_2 rfl f_X1_19 pn_1_2 ft_1_2 rfl rfl hf (fun h1 hf => ?_)
  refine rn_aload_n 6 dX1_readInto_5 rfl rfl ?_
  refine rn_iconst 7 dX1_readInto_6 rfl ic_0 ?_
  refine ro_ptI 10 dX1_readInto_7 rfl f_X1_22 pn_1_4 ft_1_4 rfl rfl hf (fun h2 hf => ?_)
  refine rn_iconst 11 dX1_readInto_10 rfl ic_0 ?_
  refine rn_istore_n (lv' := [(0, .ref (ad G o)), (1, .ref (ad G o1)), (2, .int 0)]) 12 dX1_readInto_11 rfl (Nat.le_of_ble_eq_true rfl) rfl ?_
  refine TL_X1_readInto_12 ?_ FU _ _ hf
  intro h12 y13 hf
  refine rn_aload_n 84 dX1_readInto_83 rfl rfl ?_
  refine ro_gtI 87 dX1_readInto_84 rfl f_X1_29 ft_1_3 hf (fun v14 hf => ?_)
  exact rn_iret .int dX1_readInto_87 rfl rfl (Or.inl rfl) (ok_some hf :)
theorem T_X4_fault {G : WG} {post : PO} {h : AH} {o : Nat} (hf : OkA (F_X4_fault h o) (fun q => post (some q.1) q.2)) : Rn G M_X4_fault (0, 0) 0 [(0, .ref (ad G o))] [] h post := by
  obtain ⟨_, hf⟩ := ok_ck2 hf
  refine rn_aload_n 1 dX4_fault_0 rfl rfl ?_
  refine ro_gtR 4 dX4_fault_1 rfl f_X4_23 ft_4_2 hf (fun r1 hf => ?_)
  refine rn_aload_n 5 dX4_fault_4 rfl rfl ?_
  refine ro_gtR 8 dX4_fault_5 rfl f_X4_19 ft_4_1 hf (fun r2 hf => ?_)
  refine ro_cVv (M' := M_X2_copyFrom) (As := [.ref (ad G r2)]) (o := r1) (st := []) 11 (0, 0) dX4_fault_8 rfl l_X4_66 v_X2_copyFrom ⟨Nat.le_of_ble_eq_true rfl, Nat.le_of_ble_eq_true rfl⟩ rfl rfl (Nat.le_of_ble_eq_true rfl) (Nat.le_of_ble_eq_true rfl) ⟨rfl, Nat.le_of_ble_eq_true rfl, Nat.le_of_ble_eq_true rfl⟩ hf (fun X z => ok_ck z) rfl (fun X z => T_X2_copyFrom z) (fun h3 hf => ?_)
  refine rn_aload_n 12 dX4_fault_11 rfl rfl ?_
  refine ro_gtR 15 dX4_fault_12 rfl f_X4_10 ft_4_0 hf (fun r4 hf => ?_)
  refine rn_aload_n 16 dX4_fault_15 rfl rfl ?_
  refine ro_gtR 19 dX4_fault_16 rfl f_X4_23 ft_4_2 hf (fun r5 hf => ?_)
  refine ro_cVi (M' := M_X1_readInto) (As := [.ref (ad G r5)]) (o := r4) (st := []) 22 (0, 0) dX4_fault_19 rfl l_X4_70 v_X1_readInto ⟨Nat.le_of_ble_eq_true rfl, Nat.le_of_ble_eq_true rfl⟩ rfl rfl (Nat.le_of_ble_eq_true rfl) (Nat.le_of_ble_eq_true rfl) ⟨rfl, Nat.le_of_ble_eq_true rfl, Nat.le_of_ble_eq_true rfl⟩ hf (fun X z => ok_ck z) rfl (fun X z => T_X1_readInto z) (fun q6 hf => ?_)
  exact rn_iret .int dX4_fault_22 rfl rfl (Or.inl rfl) (ok_some hf :)
theorem TL_X5_copies_3 {G : WG} {post : PO} {β : Type} {P : β → Prop} {o0 : Nat} {x1 : Int32} {o2 : Nat} {x3 : Int32} {x4 : Int32} {k : AH → Int32 → Option (β)} (hk : ∀ (h : AH) (x5 : Int32), OkA (k h x5) P → Rn G M_X5_copies (0, 0) 28 [(0, .ref (ad G o0)), (1, .int x1), (2, .ref (ad G o2)), (3, .int x3), (4, .int x4), (5, .int x5)] [] h post) : ∀ (n : Nat) (h : AH) (x5 : Int32), OkA (L_X5_copies_3 o0 x1 o2 x3 x4 k n h x5) P → Rn G M_X5_copies (0, 0) 3 [(0, .ref (ad G o0)), (1, .int x1), (2, .ref (ad G o2)), (3, .int x3), (4, .int x4), (5, .int x5)] [] h post := by
  intro n
  induction n with
  | zero => intro _ _ hf; exact absurd hf ok_none
  | succ n ih =>
    intro h x5 hf
    refine rn_iload 5 dX5_copies_3 rfl rfl ?_
    refine rn_iload 7 dX5_copies_5 rfl rfl ?_
    refine ro_icmp_ge 28 10 dX5_copies_7 rfl rfl hf (fun hf => ?_) (fun hf => ?_)
    · exact hk _ _ hf
    · refine rn_aload_n 11 dX5_copies_10 rfl rfl ?_
      refine rn_iload_n 12 dX5_copies_11 rfl rfl ?_
      refine rn_iload 14 dX5_copies_12 rfl rfl ?_
      refine rn_iadd 15 dX5_copies_14 rfl ?_
      refine rn_aload_n 16 dX5_copies_15 rfl rfl ?_
      refine rn_iload_n 17 dX5_copies_16 rfl rfl ?_
      refine rn_iload 19 dX5_copies_17 rfl rfl ?_
      refine rn_iadd 20 dX5_copies_19 rfl ?_
      refine ro_iaload 21 dX5_copies_20 rfl hf (fun v1 hf => ?_)
      refine ro_iastore 22 dX5_copies_21 rfl hf (fun h2 hf => ?_)
      refine rn_iinc (lv' := [(0, .ref (ad G o0)), (1, .int x1), (2, .ref (ad G o2)), (3, .int x3), (4, .int x4), (5, .int (x5 + 1))]) 25 dX5_copies_22 rfl (Nat.le_of_ble_eq_true rfl) rfl (inc_1 _) rfl ?_
      refine rn_goto 3 dX5_copies_25 rfl ?_
      exact ih _ _ hf
theorem T_X5_copies {G : WG} {post : PO} {h : AH} {o0 : Nat} {x1 : Int32} {o2 : Nat} {x3 : Int32} {x4 : Int32} (hf : OkA (F_X5_copies h o0 x1 o2 x3 x4) (fun q => post none q)) : Rn G M_X5_copies (0, 0) 0 [(0, .ref (ad G o0)), (1, .int x1), (2, .ref (ad G o2)), (3, .int x3), (4, .int x4)] [] h post := by
  refine rn_iconst 1 dX5_copies_0 rfl ic_0 ?_
  refine rn_istore (lv' := [(0, .ref (ad G o0)), (1, .int x1), (2, .ref (ad G o2)), (3, .int x3), (4, .int x4), (5, .int 0)]) 3 dX5_copies_1 rfl (Nat.le_of_ble_eq_true rfl) rfl ?_
  refine TL_X5_copies_3 ?_ FU _ _ hf
  intro h3 y4 hf
  exact rn_vret dX5_copies_28 rfl (Or.inl rfl) (ok_some hf :)
theorem T_X5_here {G : WG} {post : PO} {h : AH} {o : Nat} (hf : OkA (F_X5_here h o) (fun q => post (some q) h)) : Rn G M_X5_here (0, 0) 0 [(0, .ref (ad G o))] [] h post := by
  obtain ⟨_, hf⟩ := ok_ck2 hf
  refine rn_aload_n 1 dX5_here_0 rfl rfl ?_
  refine ro_gtI 4 dX5_here_1 rfl f_X5_70 ft_5_11 hf (fun v1 hf => ?_)
  refine rn_aload_n 5 dX5_here_4 rfl rfl ?_
  refine ro_gtI 8 dX5_here_5 rfl f_X5_67 ft_5_8 hf (fun v2 hf => ?_)
  refine ro_icmp_ge 23 11 dX5_here_8 rfl rfl hf (fun hf => ?_) (fun hf => ?_)
  · refine rn_iconst 24 dX5_here_23 rfl ic_m1 ?_
    exact rn_iret .int dX5_here_24 rfl rfl (Or.inl rfl) (ok_some hf :)
  · refine rn_aload_n 12 dX5_here_11 rfl rfl ?_
    refine ro_gtR 15 dX5_here_12 rfl f_X5_29 ft_5_7 hf (fun r3 hf => ?_)
    refine rn_aload_n 16 dX5_here_15 rfl rfl ?_
    refine ro_gtI 19 dX5_here_16 rfl f_X5_70 ft_5_11 hf (fun v4 hf => ?_)
    refine ro_iaload 20 dX5_here_19 rfl hf (fun v5 hf => ?_)
    refine rn_goto 24 dX5_here_20 rfl ?_
    exact rn_iret .int dX5_here_24 rfl rfl (Or.inl rfl) (ok_some hf :)
theorem TL_X5_step_0 {G : WG} {post : PO} {β : Type} {P : β → Prop} {o0 : Nat} {k : AH → Option (β)} (hk : ∀ (h : AH), OkA (k h) P → Rn G M_X5_step (0, 0) 22 [(0, .ref (ad G o0))] [] h post) : ∀ (n : Nat) (h : AH), OkA (L_X5_step_0 o0 k n h) P → Rn G M_X5_step (0, 0) 0 [(0, .ref (ad G o0))] [] h post := by
  intro n
  induction n with
  | zero => intro _ hf; exact absurd hf ok_none
  | succ n ih =>
    intro h hf
    refine rn_aload_n 1 dX5_step_0 rfl rfl ?_
    refine ro_cVp (M' := M_X5_here) (As := []) (o := o0) (st := []) 4 (0, 0) dX5_step_1 rfl l_X5_73 v_X5_here ⟨Nat.le_of_ble_eq_true rfl, Nat.le_of_ble_eq_true rfl⟩ rfl rfl (Nat.le_of_ble_eq_true rfl) (Nat.le_of_ble_eq_true rfl) ⟨rfl, Nat.le_of_ble_eq_true rfl, Nat.le_of_ble_eq_true rfl⟩ hf (fun X z => ok_ck z) rfl (fun X z => T_X5_here z) (fun v1 hf => ?_)
    refine rn_bipush 6 dX5_step_4 rfl bp_32 ?_
    refine ro_icmp_ne 22 9 dX5_step_6 rfl rfl hf (fun hf => ?_) (fun hf => ?_)
    · exact hk _ hf
    · refine rn_aload_n 10 dX5_step_9 rfl rfl ?_
      refine rn_dup 11 dX5_step_10 rfl rfl ?_
      refine ro_gtI 14 dX5_step_11 rfl f_X5_70 ft_5_11 hf (fun v2 hf => ?_)
      refine rn_iconst 15 dX5_step_14 rfl ic_1 ?_
      refine rn_iadd 16 dX5_step_15 rfl ?_
      refine ro_ptI 19 dX5_step_16 rfl f_X5_70 pn_5_11 ft_5_11 rfl rfl hf (fun h3 hf => ?_)
      refine rn_goto 0 dX5_step_19 rfl ?_
      exact ih _ hf
theorem TL_X5_step_122 {G : WG} {post : PO} {β : Type} {P : β → Prop} {o0 : Nat} {x1 : Int32} {k : AH → Option (β)} (hk : ∀ (h : AH), OkA (k h) P → Rn G M_X5_step (0, 0) 198 [(0, .ref (ad G o0)), (1, .int x1)] [] h post) : ∀ (n : Nat) (h : AH), OkA (L_X5_step_122 o0 x1 k n h) P → Rn G M_X5_step (0, 0) 122 [(0, .ref (ad G o0)), (1, .int x1)] [] h post := by
  intro n
  induction n with
  | zero => intro _ hf; exact absurd hf ok_none
  | succ n ih =>
    intro h hf
    refine rn_aload_n 123 dX5_step_122 rfl rfl ?_
    refine ro_gtI 126 dX5_step_123 rfl f_X5_95 ft_5_13 hf (fun v1 hf => ?_)
    refine rn_iconst 127 dX5_step_126 rfl ic_1 ?_
    refine ro_icmp_ne 198 130 dX5_step_127 rfl rfl hf (fun hf => ?_) (fun hf => ?_)
    · exact hk _ hf
    · refine rn_aload_n 131 dX5_step_130 rfl rfl ?_
      refine ro_cVp (M' := M_X5_here) (As := []) (o := o0) (st := []) 134 (0, 0) dX5_step_131 rfl l_X5_73 v_X5_here ⟨Nat.le_of_ble_eq_true rfl, Nat.le_of_ble_eq_true rfl⟩ rfl rfl (Nat.le_of_ble_eq_true rfl) (Nat.le_of_ble_eq_true rfl) ⟨rfl, Nat.le_of_ble_eq_true rfl, Nat.le_of_ble_eq_true rfl⟩ hf (fun X z => ok_ck z) rfl (fun X z => T_X5_here z) (fun v2 hf => ?_)
      refine rn_i2l 135 dX5_step_134 rfl ?_
      refine rn_ldc2 138 dX5_step_135 rfl k_X5_87 ?_
      refine rn_ldc2 141 dX5_step_138 rfl k_X5_89 ?_
      refine ro_cSp (M' := M_X5_in) (As := [.long v2.toInt64, .long 97, .long 122]) (st := []) 144 (0, 0) dX5_step_141 rfl l_X5_63 v_X5_in ⟨Nat.le_of_ble_eq_true rfl, Nat.le_of_ble_eq_true rfl⟩ rfl rfl (Nat.le_of_ble_eq_true rfl) (Nat.le_of_ble_eq_true rfl) ⟨rfl, Nat.le_of_ble_eq_true rfl, Nat.le_of_ble_eq_true rfl⟩ hf (fun X z => T_X5_in z) (fun v3 hf => ?_)
      refine ro_if_eq 198 147 dX5_step_144 rfl rfl hf (fun hf => ?_) (fun hf => ?_)
      · exact hk _ hf
      · refine rn_aload_n 148 dX5_step_147 rfl rfl ?_
        refine rn_aload_n 149 dX5_step_148 rfl rfl ?_
        refine ro_gtI 152 dX5_step_149 rfl f_X5_70 ft_5_11 hf (fun v4 hf => ?_)
        refine rn_aload_n 153 dX5_step_152 rfl rfl ?_
        refine ro_gtI 156 dX5_step_153 rfl f_X5_77 ft_5_12 hf (fun v5 hf => ?_)
        refine rn_isub 157 dX5_step_156 rfl ?_
        refine rn_bipush 159 dX5_step_157 rfl bp_7 ?_
        refine ro_reg (X := (fun q6 : Int64 => Rn G M_X5_step (0, 0) 182 [(0, .ref (ad G o0)), (1, .int x1)] [.long q6, .ref (ad G o0)] h post)) hf (fun q6 hf => ?_) (fun hf => ?_)
        · refine ro_ptL 185 dX5_step_182 rfl f_X5_80 pn_5_14 ft_5_14 rfl rfl hf (fun h9 hf => ?_)
          refine rn_aload_n 186 dX5_step_185 rfl rfl ?_
          refine rn_dup 187 dX5_step_186 rfl rfl ?_
          refine ro_gtI 190 dX5_step_187 rfl f_X5_70 ft_5_11 hf (fun v10 hf => ?_)
          refine rn_iconst 191 dX5_step_190 rfl ic_1 ?_
          refine rn_iadd 192 dX5_step_191 rfl ?_
          refine ro_ptI 195 dX5_step_192 rfl f_X5_70 pn_5_11 ft_5_11 rfl rfl hf (fun h11 hf => ?_)
          refine rn_goto 122 dX5_step_195 rfl ?_
          exact ih _ hf
        · refine ro_icmp_ge 179 162 dX5_step_159 rfl rfl hf (fun hf => ?_) (fun hf => ?_)
          · refine rn_ldc2 182 dX5_step_179 rfl k_X5_100 ?_
            exact (ok_some hf :)
          · refine rn_aload_n 163 dX5_step_162 rfl rfl ?_
            refine ro_gtL 166 dX5_step_163 rfl f_X5_80 ft_5_14 hf (fun v7 hf => ?_)
            refine rn_ldc2 169 dX5_step_166 rfl k_X5_98 ?_
            refine rn_lmul 170 dX5_step_169 rfl ?_
            refine rn_aload_n 171 dX5_step_170 rfl rfl ?_
            refine ro_cVp (M' := M_X5_here) (As := []) (o := o0) (st := [.long (v7 * 256), .ref (ad G o0)]) 174 (0, 0) dX5_step_171 rfl l_X5_73 v_X5_here ⟨Nat.le_of_ble_eq_true rfl, Nat.le_of_ble_eq_true rfl⟩ rfl rfl (Nat.le_of_ble_eq_true rfl) (Nat.le_of_ble_eq_true rfl) ⟨rfl, Nat.le_of_ble_eq_true rfl, Nat.le_of_ble_eq_true rfl⟩ hf (fun X z => ok_ck z) rfl (fun X z => T_X5_here z) (fun v8 hf => ?_)
            refine rn_i2l 175 dX5_step_174 rfl ?_
            refine rn_ladd 176 dX5_step_175 rfl ?_
            refine rn_goto 182 dX5_step_176 rfl ?_
            exact (ok_some hf :)
theorem TL_X5_step_198 {G : WG} {post : PO} {β : Type} {P : β → Prop} {o0 : Nat} {x1 : Int32} {k : AH → Option (β)} (hk : ∀ (h : AH), OkA (k h) P → Rn G M_X5_step (0, 0) 275 [(0, .ref (ad G o0)), (1, .int x1)] [] h post) : ∀ (n : Nat) (h : AH), OkA (L_X5_step_198 o0 x1 k n h) P → Rn G M_X5_step (0, 0) 198 [(0, .ref (ad G o0)), (1, .int x1)] [] h post := by
  intro n
  induction n with
  | zero => intro _ hf; exact absurd hf ok_none
  | succ n ih =>
    intro h hf
    refine rn_aload_n 199 dX5_step_198 rfl rfl ?_
    refine ro_gtI 202 dX5_step_199 rfl f_X5_95 ft_5_13 hf (fun v1 hf => ?_)
    refine rn_iconst 203 dX5_step_202 rfl ic_2 ?_
    refine ro_icmp_ne 275 206 dX5_step_203 rfl rfl hf (fun hf => ?_) (fun hf => ?_)
    · exact hk _ hf
    · refine rn_aload_n 207 dX5_step_206 rfl rfl ?_
      refine ro_cVp (M' := M_X5_here) (As := []) (o := o0) (st := []) 210 (0, 0) dX5_step_207 rfl l_X5_73 v_X5_here ⟨Nat.le_of_ble_eq_true rfl, Nat.le_of_ble_eq_true rfl⟩ rfl rfl (Nat.le_of_ble_eq_true rfl) (Nat.le_of_ble_eq_true rfl) ⟨rfl, Nat.le_of_ble_eq_true rfl, Nat.le_of_ble_eq_true rfl⟩ hf (fun X z => ok_ck z) rfl (fun X z => T_X5_here z) (fun v2 hf => ?_)
      refine rn_i2l 211 dX5_step_210 rfl ?_
      refine rn_ldc2 214 dX5_step_211 rfl k_X5_91 ?_
      refine rn_ldc2 217 dX5_step_214 rfl k_X5_93 ?_
      refine ro_cSp (M' := M_X5_in) (As := [.long v2.toInt64, .long 48, .long 57]) (st := []) 220 (0, 0) dX5_step_217 rfl l_X5_63 v_X5_in ⟨Nat.le_of_ble_eq_true rfl, Nat.le_of_ble_eq_true rfl⟩ rfl rfl (Nat.le_of_ble_eq_true rfl) (Nat.le_of_ble_eq_true rfl) ⟨rfl, Nat.le_of_ble_eq_true rfl, Nat.le_of_ble_eq_true rfl⟩ hf (fun X z => T_X5_in z) (fun v3 hf => ?_)
      refine ro_if_eq 275 223 dX5_step_220 rfl rfl hf (fun hf => ?_) (fun hf => ?_)
      · exact hk _ hf
      · refine rn_aload_n 224 dX5_step_223 rfl rfl ?_
        refine rn_aload_n 225 dX5_step_224 rfl rfl ?_
        refine ro_gtI 228 dX5_step_225 rfl f_X5_70 ft_5_11 hf (fun v4 hf => ?_)
        refine rn_aload_n 229 dX5_step_228 rfl rfl ?_
        refine ro_gtI 232 dX5_step_229 rfl f_X5_77 ft_5_12 hf (fun v5 hf => ?_)
        refine rn_isub 233 dX5_step_232 rfl ?_
        refine rn_iconst 234 dX5_step_233 rfl ic_2 ?_
        refine ro_reg (X := (fun q6 : Int32 => Rn G M_X5_step (0, 0) 259 [(0, .ref (ad G o0)), (1, .int x1)] [.int q6, .ref (ad G o0)] h post)) hf (fun q6 hf => ?_) (fun hf => ?_)
        · refine ro_ptI 262 dX5_step_259 rfl f_X5_84 pn_5_15 ft_5_15 rfl rfl hf (fun h10 hf => ?_)
          refine rn_aload_n 263 dX5_step_262 rfl rfl ?_
          refine rn_dup 264 dX5_step_263 rfl rfl ?_
          refine ro_gtI 267 dX5_step_264 rfl f_X5_70 ft_5_11 hf (fun v11 hf => ?_)
          refine rn_iconst 268 dX5_step_267 rfl ic_1 ?_
          refine rn_iadd 269 dX5_step_268 rfl ?_
          refine ro_ptI 272 dX5_step_269 rfl f_X5_70 pn_5_11 ft_5_11 rfl rfl hf (fun h12 hf => ?_)
          refine rn_goto 198 dX5_step_272 rfl ?_
          exact ih _ hf
        · refine ro_icmp_ge 255 237 dX5_step_234 rfl rfl hf (fun hf => ?_) (fun hf => ?_)
          · refine rn_aload_n 256 dX5_step_255 rfl rfl ?_
            refine ro_gtI 259 dX5_step_256 rfl f_X5_84 ft_5_15 hf (fun v7 hf => ?_)
            exact (ok_some hf :)
          · refine rn_bipush 239 dX5_step_237 rfl bp_10 ?_
            refine rn_aload_n 240 dX5_step_239 rfl rfl ?_
            refine ro_gtI 243 dX5_step_240 rfl f_X5_84 ft_5_15 hf (fun v8 hf => ?_)
            refine rn_imul 244 dX5_step_243 rfl ?_
            refine rn_aload_n 245 dX5_step_244 rfl rfl ?_
            refine ro_cVp (M' := M_X5_here) (As := []) (o := o0) (st := [.int (10 * v8), .ref (ad G o0)]) 248 (0, 0) dX5_step_245 rfl l_X5_73 v_X5_here ⟨Nat.le_of_ble_eq_true rfl, Nat.le_of_ble_eq_true rfl⟩ rfl rfl (Nat.le_of_ble_eq_true rfl) (Nat.le_of_ble_eq_true rfl) ⟨rfl, Nat.le_of_ble_eq_true rfl, Nat.le_of_ble_eq_true rfl⟩ hf (fun X z => ok_ck z) rfl (fun X z => T_X5_here z) (fun v9 hf => ?_)
            refine rn_iadd 249 dX5_step_248 rfl ?_
            refine rn_bipush 251 dX5_step_249 rfl bp_48 ?_
            refine rn_isub 252 dX5_step_251 rfl ?_
            refine rn_goto 259 dX5_step_252 rfl ?_
            exact (ok_some hf :)
theorem T_X5_step {G : WG} {post : PO} {h : AH} {o : Nat} (hf : OkA (F_X5_step h o) (fun q => post none q)) : Rn G M_X5_step (0, 0) 0 [(0, .ref (ad G o))] [] h post := by
  obtain ⟨_, hf⟩ := ok_ck2 hf
  refine TL_X5_step_0 ?_ FU _ hf
  intro h4 hf
  refine rn_aload_n 23 dX5_step_22 rfl rfl ?_
  refine rn_aload_n 24 dX5_step_23 rfl rfl ?_
  refine ro_gtI 27 dX5_step_24 rfl f_X5_70 ft_5_11 hf (fun v5 hf => ?_)
  refine ro_ptI 30 dX5_step_27 rfl f_X5_77 pn_5_12 ft_5_12 rfl rfl hf (fun h6 hf => ?_)
  refine rn_aload_n 31 dX5_step_30 rfl rfl ?_
  refine rn_lconst 32 dX5_step_31 rfl lc_0 ?_
  refine ro_ptL 35 dX5_step_32 rfl f_X5_80 pn_5_14 ft_5_14 rfl rfl hf (fun h7 hf => ?_)
  refine rn_aload_n 36 dX5_step_35 rfl rfl ?_
  refine rn_iconst 37 dX5_step_36 rfl ic_0 ?_
  refine ro_ptI 40 dX5_step_37 rfl f_X5_84 pn_5_15 ft_5_15 rfl rfl hf (fun h8 hf => ?_)
  refine rn_aload_n 41 dX5_step_40 rfl rfl ?_
  refine ro_cVp (M' := M_X5_here) (As := []) (o := o) (st := []) 44 (0, 0) dX5_step_41 rfl l_X5_73 v_X5_here ⟨Nat.le_of_ble_eq_true rfl, Nat.le_of_ble_eq_true rfl⟩ rfl rfl (Nat.le_of_ble_eq_true rfl) (Nat.le_of_ble_eq_true rfl) ⟨rfl, Nat.le_of_ble_eq_true rfl, Nat.le_of_ble_eq_true rfl⟩ hf (fun X z => ok_ck z) rfl (fun X z => T_X5_here z) (fun v9 hf => ?_)
  refine rn_istore_n (lv' := [(0, .ref (ad G o)), (1, .int v9)]) 45 dX5_step_44 rfl (Nat.le_of_ble_eq_true rfl) rfl ?_
  refine rn_aload_n 46 dX5_step_45 rfl rfl ?_
  refine rn_iload_n 47 dX5_step_46 rfl rfl ?_
  refine ro_reg (X := (fun q10 : Int32 => Rn G M_X5_step (0, 0) 101 [(0, .ref (ad G o)), (1, .int v9)] [.int q10, .ref (ad G o)] h8 post)) hf (fun q10 hf => ?_) (fun hf => ?_)
  · refine ro_ptI 104 dX5_step_101 rfl f_X5_95 pn_5_13 ft_5_13 rfl rfl hf (fun h13 hf => ?_)
    refine rn_aload_n 105 dX5_step_104 rfl rfl ?_
    refine ro_gtI 108 dX5_step_105 rfl f_X5_95 ft_5_13 hf (fun v14 hf => ?_)
    refine rn_iconst 109 dX5_step_108 rfl ic_2 ?_
    refine ro_reg (X := (fun q15 : AH => Rn G M_X5_step (0, 0) 122 [(0, .ref (ad G o)), (1, .int v9)] [] q15 post)) hf (fun q15 hf => ?_) (fun hf => ?_)
    · refine TL_X5_step_122 ?_ FU _ hf
      intro h18 hf
      refine TL_X5_step_198 ?_ FU _ hf
      intro h19 hf
      refine rn_aload_n 276 dX5_step_275 rfl rfl ?_
      refine rn_aload_n 277 dX5_step_276 rfl rfl ?_
      refine ro_gtI 280 dX5_step_277 rfl f_X5_95 ft_5_13 hf (fun v20 hf => ?_)
      refine rn_iconst 281 dX5_step_280 rfl ic_2 ?_
      refine ro_icmp_ne 301 284 dX5_step_281 rfl rfl hf (fun hf => ?_) (fun hf => ?_)
      · refine rn_aload_n 302 dX5_step_301 rfl rfl ?_
        refine ro_gtI 305 dX5_step_302 rfl f_X5_95 ft_5_13 hf (fun v21 hf => ?_)
        refine ro_ptI 308 dX5_step_305 rfl f_X5_95 pn_5_13 ft_5_13 rfl rfl hf (fun h22 hf => ?_)
        exact rn_vret dX5_step_308 rfl (Or.inl rfl) (ok_some hf :)
      · refine rn_aload_n 285 dX5_step_284 rfl rfl ?_
        refine ro_gtI 288 dX5_step_285 rfl f_X5_70 ft_5_11 hf (fun v23 hf => ?_)
        refine rn_aload_n 289 dX5_step_288 rfl rfl ?_
        refine ro_gtI 292 dX5_step_289 rfl f_X5_77 ft_5_12 hf (fun v24 hf => ?_)
        refine rn_isub 293 dX5_step_292 rfl ?_
        refine rn_iconst 294 dX5_step_293 rfl ic_2 ?_
        refine ro_icmp_le 301 297 dX5_step_294 rfl rfl hf (fun hf => ?_) (fun hf => ?_)
        · refine rn_aload_n 302 dX5_step_301 rfl rfl ?_
          refine ro_gtI 305 dX5_step_302 rfl f_X5_95 ft_5_13 hf (fun v25 hf => ?_)
          refine ro_ptI 308 dX5_step_305 rfl f_X5_95 pn_5_13 ft_5_13 rfl rfl hf (fun h26 hf => ?_)
          exact rn_vret dX5_step_308 rfl (Or.inl rfl) (ok_some hf :)
        · refine rn_iconst 298 dX5_step_297 rfl ic_4 ?_
          refine rn_goto 305 dX5_step_298 rfl ?_
          refine ro_ptI 308 dX5_step_305 rfl f_X5_95 pn_5_13 ft_5_13 rfl rfl hf (fun h27 hf => ?_)
          exact rn_vret dX5_step_308 rfl (Or.inl rfl) (ok_some hf :)
    · refine ro_icmp_le 122 112 dX5_step_109 rfl rfl hf (fun hf => ?_) (fun hf => ?_)
      · exact (ok_some hf :)
      · refine rn_aload_n 113 dX5_step_112 rfl rfl ?_
        refine rn_dup 114 dX5_step_113 rfl rfl ?_
        refine ro_gtI 117 dX5_step_114 rfl f_X5_70 ft_5_11 hf (fun v16 hf => ?_)
        refine rn_iconst 118 dX5_step_117 rfl ic_1 ?_
        refine rn_iadd 119 dX5_step_118 rfl ?_
        refine ro_ptI 122 dX5_step_119 rfl f_X5_70 pn_5_11 ft_5_11 rfl rfl hf (fun h17 hf => ?_)
        exact (ok_some hf :)
  · refine ro_if_ge 54 50 dX5_step_47 rfl rfl hf (fun hf => ?_) (fun hf => ?_)
    · refine rn_iload_n 55 dX5_step_54 rfl rfl ?_
      refine rn_i2l 56 dX5_step_55 rfl ?_
      refine rn_ldc2 59 dX5_step_56 rfl k_X5_87 ?_
      refine rn_ldc2 62 dX5_step_59 rfl k_X5_89 ?_
      refine ro_cSp (M' := M_X5_in) (As := [.long v9.toInt64, .long 97, .long 122]) (st := [.ref (ad G o)]) 65 (0, 0) dX5_step_62 rfl l_X5_63 v_X5_in ⟨Nat.le_of_ble_eq_true rfl, Nat.le_of_ble_eq_true rfl⟩ rfl rfl (Nat.le_of_ble_eq_true rfl) (Nat.le_of_ble_eq_true rfl) ⟨rfl, Nat.le_of_ble_eq_true rfl, Nat.le_of_ble_eq_true rfl⟩ hf (fun X z => T_X5_in z) (fun v11 hf => ?_)
      refine ro_if_eq 72 68 dX5_step_65 rfl rfl hf (fun hf => ?_) (fun hf => ?_)
      · refine rn_iload_n 73 dX5_step_72 rfl rfl ?_
        refine rn_i2l 74 dX5_step_73 rfl ?_
        refine rn_ldc2 77 dX5_step_74 rfl k_X5_91 ?_
        refine rn_ldc2 80 dX5_step_77 rfl k_X5_93 ?_
        refine ro_cSp (M' := M_X5_in) (As := [.long v9.toInt64, .long 48, .long 57]) (st := [.ref (ad G o)]) 83 (0, 0) dX5_step_80 rfl l_X5_63 v_X5_in ⟨Nat.le_of_ble_eq_true rfl, Nat.le_of_ble_eq_true rfl⟩ rfl rfl (Nat.le_of_ble_eq_true rfl) (Nat.le_of_ble_eq_true rfl) ⟨rfl, Nat.le_of_ble_eq_true rfl, Nat.le_of_ble_eq_true rfl⟩ hf (fun X z => T_X5_in z) (fun v12 hf => ?_)
        refine ro_if_eq 90 86 dX5_step_83 rfl rfl hf (fun hf => ?_) (fun hf => ?_)
        · refine rn_iload_n 91 dX5_step_90 rfl rfl ?_
          refine rn_bipush 93 dX5_step_91 rfl bp_59 ?_
          refine ro_icmp_ne 100 96 dX5_step_93 rfl rfl hf (fun hf => ?_) (fun hf => ?_)
          · refine rn_iconst 101 dX5_step_100 rfl ic_4 ?_
            exact (ok_some hf :)
          · refine rn_iconst 97 dX5_step_96 rfl ic_3 ?_
            refine rn_goto 101 dX5_step_97 rfl ?_
            exact (ok_some hf :)
        · refine rn_iconst 87 dX5_step_86 rfl ic_2 ?_
          refine rn_goto 101 dX5_step_87 rfl ?_
          exact (ok_some hf :)
      · refine rn_iconst 69 dX5_step_68 rfl ic_1 ?_
        refine rn_goto 101 dX5_step_69 rfl ?_
        exact (ok_some hf :)
    · refine rn_iconst 51 dX5_step_50 rfl ic_0 ?_
      refine rn_goto 101 dX5_step_51 rfl ?_
      exact (ok_some hf :)
theorem T_X5_anew {G : WG} {post : PO} {h : AH} {o : Nat} (hf : OkA (F_X5_anew h o) (fun q => post (some q.1) q.2)) : Rn G M_X5_anew (0, 0) 0 [(0, .ref (ad G o))] [] h post := by
  obtain ⟨_, hf⟩ := ok_ck2 hf
  refine rn_aload_n 1 dX5_anew_0 rfl rfl ?_
  refine ro_gtR 4 dX5_anew_1 rfl f_X5_13 ft_5_1 hf (fun r1 hf => ?_)
  refine ro_cSv (M' := M_X5_blank) (As := [.ref (ad G r1)]) (st := []) 7 (0, 0) dX5_anew_4 rfl l_X5_47 v_X5_blank ⟨Nat.le_of_ble_eq_true rfl, Nat.le_of_ble_eq_true rfl⟩ rfl rfl (Nat.le_of_ble_eq_true rfl) (Nat.le_of_ble_eq_true rfl) ⟨rfl, Nat.le_of_ble_eq_true rfl, Nat.le_of_ble_eq_true rfl⟩ hf (fun X z => T_X5_blank z) (fun h2 hf => ?_)
  refine rn_iconst 8 dX5_anew_7 rfl ic_1 ?_
  exact rn_iret .boolean dX5_anew_8 rfl rfl (Or.inl rfl) (ok_some hf :)
theorem T_X5_number {G : WG} {post : PO} {h : AH} {o : Nat} {x1 : Int32} (hf : OkA (F_X5_number h o x1) (fun q => post (some q.1) q.2)) : Rn G M_X5_number (0, 0) 0 [(0, .ref (ad G o)), (1, .int x1)] [] h post := by
  obtain ⟨_, hf⟩ := ok_ck2 hf
  refine rn_aload_n 1 dX5_number_0 rfl rfl ?_
  refine ro_cVv (M' := M_X5_step) (As := []) (o := o) (st := []) 4 (0, 0) dX5_number_1 rfl l_X5_102 v_X5_step ⟨Nat.le_of_ble_eq_true rfl, Nat.le_of_ble_eq_true rfl⟩ rfl rfl (Nat.le_of_ble_eq_true rfl) (Nat.le_of_ble_eq_true rfl) ⟨rfl, Nat.le_of_ble_eq_true rfl, Nat.le_of_ble_eq_true rfl⟩ hf (fun X z => ok_ck z) rfl (fun X z => T_X5_step z) (fun h1 hf => ?_)
  refine rn_aload_n 5 dX5_number_4 rfl rfl ?_
  refine ro_gtI 8 dX5_number_5 rfl f_X5_95 ft_5_13 hf (fun v2 hf => ?_)
  refine rn_iconst 9 dX5_number_8 rfl ic_2 ?_
  refine ro_icmp_ne 24 12 dX5_number_9 rfl rfl hf (fun hf => ?_) (fun hf => ?_)
  · refine rn_iconst 25 dX5_number_24 rfl ic_0 ?_
    exact rn_iret .boolean dX5_number_25 rfl rfl (Or.inl rfl) (ok_some hf :)
  · refine rn_aload_n 13 dX5_number_12 rfl rfl ?_
    refine ro_gtI 16 dX5_number_13 rfl f_X5_84 ft_5_15 hf (fun v3 hf => ?_)
    refine rn_iload_n 17 dX5_number_16 rfl rfl ?_
    refine ro_icmp_gt 24 20 dX5_number_17 rfl rfl hf (fun hf => ?_) (fun hf => ?_)
    · refine rn_iconst 25 dX5_number_24 rfl ic_0 ?_
      exact rn_iret .boolean dX5_number_25 rfl rfl (Or.inl rfl) (ok_some hf :)
    · refine rn_iconst 21 dX5_number_20 rfl ic_1 ?_
      refine rn_goto 25 dX5_number_21 rfl ?_
      exact rn_iret .boolean dX5_number_25 rfl rfl (Or.inl rfl) (ok_some hf :)
theorem T_X5_readsPlace {G : WG} {post : PO} {h : AH} {o : Nat} (hf : OkA (F_X5_readsPlace h o) (fun q => post (some q.1) q.2)) : Rn G M_X5_readsPlace (0, 0) 0 [(0, .ref (ad G o))] [] h post := by
  obtain ⟨_, hf⟩ := ok_ck2 hf
  refine rn_aload_n 1 dX5_readsPlace_0 rfl rfl ?_
  refine ro_gtR 4 dX5_readsPlace_1 rfl f_X5_13 ft_5_1 hf (fun r1 hf => ?_)
  refine rn_iconst 5 dX5_readsPlace_4 rfl ic_0 ?_
  refine ro_iaload 6 dX5_readsPlace_5 rfl hf (fun v2 hf => ?_)
  refine rn_istore_n (lv' := [(0, .ref (ad G o)), (1, .int v2)]) 7 dX5_readsPlace_6 rfl (Nat.le_of_ble_eq_true rfl) rfl ?_
  refine rn_iload_n 8 dX5_readsPlace_7 rfl rfl ?_
  refine rn_bipush 10 dX5_readsPlace_8 rfl bp_8 ?_
  refine ro_icmp_eq 22 13 dX5_readsPlace_10 rfl rfl hf (fun hf => ?_) (fun hf => ?_)
  · refine rn_iconst 23 dX5_readsPlace_22 rfl ic_0 ?_
    exact rn_iret .boolean dX5_readsPlace_23 rfl rfl (Or.inl rfl) (ok_some hf :)
  · refine rn_aload_n 14 dX5_readsPlace_13 rfl rfl ?_
    refine rn_bipush 16 dX5_readsPlace_14 rfl bp_7 ?_
    refine ro_cVi (M' := M_X5_number) (As := [.int 7]) (o := o) (st := []) 19 (0, 0) dX5_readsPlace_16 rfl l_X5_105 v_X5_number ⟨Nat.le_of_ble_eq_true rfl, Nat.le_of_ble_eq_true rfl⟩ rfl rfl (Nat.le_of_ble_eq_true rfl) (Nat.le_of_ble_eq_true rfl) ⟨rfl, Nat.le_of_ble_eq_true rfl, Nat.le_of_ble_eq_true rfl⟩ hf (fun X z => ok_ck z) rfl (fun X z => T_X5_number z) (fun q3 hf => ?_)
    refine ro_if_ne 24 22 dX5_readsPlace_19 rfl rfl hf (fun hf => ?_) (fun hf => ?_)
    · refine rn_aload_n 25 dX5_readsPlace_24 rfl rfl ?_
      refine ro_gtR 28 dX5_readsPlace_25 rfl f_X5_13 ft_5_1 hf (fun r4 hf => ?_)
      refine rn_iconst 29 dX5_readsPlace_28 rfl ic_1 ?_
      refine rn_iload_n 30 dX5_readsPlace_29 rfl rfl ?_
      refine rn_iadd 31 dX5_readsPlace_30 rfl ?_
      refine rn_aload_n 32 dX5_readsPlace_31 rfl rfl ?_
      refine ro_gtI 35 dX5_readsPlace_32 rfl f_X5_84 ft_5_15 hf (fun v5 hf => ?_)
      refine ro_iastore 36 dX5_readsPlace_35 rfl hf (fun h6 hf => ?_)
      refine rn_aload_n 37 dX5_readsPlace_36 rfl rfl ?_
      refine rn_bipush 39 dX5_readsPlace_37 rfl bp_9 ?_
      refine ro_cVi (M' := M_X5_number) (As := [.int 9]) (o := o) (st := []) 42 (0, 0) dX5_readsPlace_39 rfl l_X5_105 v_X5_number ⟨Nat.le_of_ble_eq_true rfl, Nat.le_of_ble_eq_true rfl⟩ rfl rfl (Nat.le_of_ble_eq_true rfl) (Nat.le_of_ble_eq_true rfl) ⟨rfl, Nat.le_of_ble_eq_true rfl, Nat.le_of_ble_eq_true rfl⟩ hf (fun X z => ok_ck z) rfl (fun X z => T_X5_number z) (fun q7 hf => ?_)
      refine ro_if_ne 47 45 dX5_readsPlace_42 rfl rfl hf (fun hf => ?_) (fun hf => ?_)
      · refine rn_aload_n 48 dX5_readsPlace_47 rfl rfl ?_
        refine ro_gtR 51 dX5_readsPlace_48 rfl f_X5_13 ft_5_1 hf (fun r8 hf => ?_)
        refine rn_bipush 53 dX5_readsPlace_51 rfl bp_9 ?_
        refine rn_iload_n 54 dX5_readsPlace_53 rfl rfl ?_
        refine rn_iadd 55 dX5_readsPlace_54 rfl ?_
        refine rn_aload_n 56 dX5_readsPlace_55 rfl rfl ?_
        refine ro_gtI 59 dX5_readsPlace_56 rfl f_X5_84 ft_5_15 hf (fun v9 hf => ?_)
        refine ro_iastore 60 dX5_readsPlace_59 rfl hf (fun h10 hf => ?_)
        refine rn_aload_n 61 dX5_readsPlace_60 rfl rfl ?_
        refine rn_bipush 63 dX5_readsPlace_61 rfl bp_9 ?_
        refine ro_cVi (M' := M_X5_number) (As := [.int 9]) (o := o) (st := []) 66 (0, 0) dX5_readsPlace_63 rfl l_X5_105 v_X5_number ⟨Nat.le_of_ble_eq_true rfl, Nat.le_of_ble_eq_true rfl⟩ rfl rfl (Nat.le_of_ble_eq_true rfl) (Nat.le_of_ble_eq_true rfl) ⟨rfl, Nat.le_of_ble_eq_true rfl, Nat.le_of_ble_eq_true rfl⟩ hf (fun X z => ok_ck z) rfl (fun X z => T_X5_number z) (fun q11 hf => ?_)
        refine ro_if_ne 71 69 dX5_readsPlace_66 rfl rfl hf (fun hf => ?_) (fun hf => ?_)
        · refine rn_aload_n 72 dX5_readsPlace_71 rfl rfl ?_
          refine ro_gtR 75 dX5_readsPlace_72 rfl f_X5_13 ft_5_1 hf (fun r12 hf => ?_)
          refine rn_bipush 77 dX5_readsPlace_75 rfl bp_17 ?_
          refine rn_iload_n 78 dX5_readsPlace_77 rfl rfl ?_
          refine rn_iadd 79 dX5_readsPlace_78 rfl ?_
          refine rn_aload_n 80 dX5_readsPlace_79 rfl rfl ?_
          refine ro_gtI 83 dX5_readsPlace_80 rfl f_X5_84 ft_5_15 hf (fun v13 hf => ?_)
          refine ro_iastore 84 dX5_readsPlace_83 rfl hf (fun h14 hf => ?_)
          refine rn_aload_n 85 dX5_readsPlace_84 rfl rfl ?_
          refine ro_gtR 88 dX5_readsPlace_85 rfl f_X5_13 ft_5_1 hf (fun r15 hf => ?_)
          refine rn_iconst 89 dX5_readsPlace_88 rfl ic_0 ?_
          refine rn_dup2 90 dX5_readsPlace_89 rfl rfl rfl ?_
          refine ro_iaload 91 dX5_readsPlace_90 rfl hf (fun v16 hf => ?_)
          refine rn_iconst 92 dX5_readsPlace_91 rfl ic_1 ?_
          refine rn_iadd 93 dX5_readsPlace_92 rfl ?_
          refine ro_iastore 94 dX5_readsPlace_93 rfl hf (fun h17 hf => ?_)
          refine rn_iconst 95 dX5_readsPlace_94 rfl ic_1 ?_
          exact rn_iret .boolean dX5_readsPlace_95 rfl rfl (Or.inl rfl) (ok_some hf :)
        · refine rn_iconst 70 dX5_readsPlace_69 rfl ic_0 ?_
          exact rn_iret .boolean dX5_readsPlace_70 rfl rfl (Or.inl rfl) (ok_some hf :)
      · refine rn_iconst 46 dX5_readsPlace_45 rfl ic_0 ?_
        exact rn_iret .boolean dX5_readsPlace_46 rfl rfl (Or.inl rfl) (ok_some hf :)
    · refine rn_iconst 23 dX5_readsPlace_22 rfl ic_0 ?_
      exact rn_iret .boolean dX5_readsPlace_23 rfl rfl (Or.inl rfl) (ok_some hf :)
theorem T_X5_readsNews {G : WG} {post : PO} {h : AH} {o : Nat} (hf : OkA (F_X5_readsNews h o) (fun q => post (some q.1) q.2)) : Rn G M_X5_readsNews (0, 0) 0 [(0, .ref (ad G o))] [] h post := by
  obtain ⟨_, hf⟩ := ok_ck2 hf
  refine rn_aload_n 1 dX5_readsNews_0 rfl rfl ?_
  refine rn_bipush 3 dX5_readsNews_1 rfl bp_13 ?_
  refine ro_cVi (M' := M_X5_number) (As := [.int 13]) (o := o) (st := []) 6 (0, 0) dX5_readsNews_3 rfl l_X5_105 v_X5_number ⟨Nat.le_of_ble_eq_true rfl, Nat.le_of_ble_eq_true rfl⟩ rfl rfl (Nat.le_of_ble_eq_true rfl) (Nat.le_of_ble_eq_true rfl) ⟨rfl, Nat.le_of_ble_eq_true rfl, Nat.le_of_ble_eq_true rfl⟩ hf (fun X z => ok_ck z) rfl (fun X z => T_X5_number z) (fun q1 hf => ?_)
  refine ro_if_ne 11 9 dX5_readsNews_6 rfl rfl hf (fun hf => ?_) (fun hf => ?_)
  · refine rn_aload_n 12 dX5_readsNews_11 rfl rfl ?_
    refine ro_gtI 15 dX5_readsNews_12 rfl f_X5_84 ft_5_15 hf (fun v2 hf => ?_)
    refine rn_istore_n (lv' := [(0, .ref (ad G o)), (1, .int v2)]) 16 dX5_readsNews_15 rfl (Nat.le_of_ble_eq_true rfl) rfl ?_
    refine rn_aload_n 17 dX5_readsNews_16 rfl rfl ?_
    refine rn_bipush 19 dX5_readsNews_17 rfl bp_7 ?_
    refine ro_cVi (M' := M_X5_number) (As := [.int 7]) (o := o) (st := []) 22 (0, 0) dX5_readsNews_19 rfl l_X5_105 v_X5_number ⟨Nat.le_of_ble_eq_true rfl, Nat.le_of_ble_eq_true rfl⟩ rfl rfl (Nat.le_of_ble_eq_true rfl) (Nat.le_of_ble_eq_true rfl) ⟨rfl, Nat.le_of_ble_eq_true rfl, Nat.le_of_ble_eq_true rfl⟩ hf (fun X z => ok_ck z) rfl (fun X z => T_X5_number z) (fun q3 hf => ?_)
    refine ro_if_ne 27 25 dX5_readsNews_22 rfl rfl hf (fun hf => ?_) (fun hf => ?_)
    · refine rn_aload_n 28 dX5_readsNews_27 rfl rfl ?_
      refine ro_gtR 31 dX5_readsNews_28 rfl f_X5_13 ft_5_1 hf (fun r4 hf => ?_)
      refine rn_bipush 33 dX5_readsNews_31 rfl bp_36 ?_
      refine rn_iload_n 34 dX5_readsNews_33 rfl rfl ?_
      refine rn_iadd 35 dX5_readsNews_34 rfl ?_
      refine rn_aload_n 36 dX5_readsNews_35 rfl rfl ?_
      refine ro_gtI 39 dX5_readsNews_36 rfl f_X5_84 ft_5_15 hf (fun v5 hf => ?_)
      refine ro_iastore 40 dX5_readsNews_39 rfl hf (fun h6 hf => ?_)
      refine rn_iconst 41 dX5_readsNews_40 rfl ic_1 ?_
      exact rn_iret .boolean dX5_readsNews_41 rfl rfl (Or.inl rfl) (ok_some hf :)
    · refine rn_iconst 26 dX5_readsNews_25 rfl ic_0 ?_
      exact rn_iret .boolean dX5_readsNews_26 rfl rfl (Or.inl rfl) (ok_some hf :)
  · refine rn_iconst 10 dX5_readsNews_9 rfl ic_0 ?_
    exact rn_iret .boolean dX5_readsNews_10 rfl rfl (Or.inl rfl) (ok_some hf :)
theorem TL_X5_calm_2 {G : WG} {post : PO} {β : Type} {P : β → Prop} {o0 : Nat} {k : AH → Int32 → Option (β)} (hk : ∀ (h : AH) (x1 : Int32), OkA (k h x1) P → Rn G M_X5_calm (0, 0) 24 [(0, .ref (ad G o0)), (1, .int x1)] [] h post) : ∀ (n : Nat) (h : AH) (x1 : Int32), OkA (L_X5_calm_2 o0 k n h x1) P → Rn G M_X5_calm (0, 0) 2 [(0, .ref (ad G o0)), (1, .int x1)] [] h post := by
  intro n
  induction n with
  | zero => intro _ _ hf; exact absurd hf ok_none
  | succ n ih =>
    intro h x1 hf
    refine rn_iload_n 3 dX5_calm_2 rfl rfl ?_
    refine rn_bipush 5 dX5_calm_3 rfl bp_14 ?_
    refine ro_icmp_ge 24 8 dX5_calm_5 rfl rfl hf (fun hf => ?_) (fun hf => ?_)
    · exact hk _ _ hf
    · refine rn_aload_n 9 dX5_calm_8 rfl rfl ?_
      refine ro_gtR 12 dX5_calm_9 rfl f_X5_13 ft_5_1 hf (fun r1 hf => ?_)
      refine rn_bipush 14 dX5_calm_12 rfl bp_36 ?_
      refine rn_iload_n 15 dX5_calm_14 rfl rfl ?_
      refine rn_iadd 16 dX5_calm_15 rfl ?_
      refine rn_iconst 17 dX5_calm_16 rfl ic_m1 ?_
      refine ro_iastore 18 dX5_calm_17 rfl hf (fun h2 hf => ?_)
      refine rn_iinc (lv' := [(0, .ref (ad G o0)), (1, .int (x1 + 1))]) 21 dX5_calm_18 rfl (Nat.le_of_ble_eq_true rfl) rfl (inc_1 _) rfl ?_
      refine rn_goto 2 dX5_calm_21 rfl ?_
      exact ih _ _ hf
theorem T_X5_calm {G : WG} {post : PO} {h : AH} {o : Nat} (hf : OkA (F_X5_calm h o) (fun q => post (some q.1) q.2)) : Rn G M_X5_calm (0, 0) 0 [(0, .ref (ad G o))] [] h post := by
  obtain ⟨_, hf⟩ := ok_ck2 hf
  refine rn_iconst 1 dX5_calm_0 rfl ic_0 ?_
  refine rn_istore_n (lv' := [(0, .ref (ad G o)), (1, .int 0)]) 2 dX5_calm_1 rfl (Nat.le_of_ble_eq_true rfl) rfl ?_
  refine TL_X5_calm_2 ?_ FU _ _ hf
  intro h3 y4 hf
  refine rn_iconst 25 dX5_calm_24 rfl ic_1 ?_
  exact rn_iret .boolean dX5_calm_25 rfl rfl (Or.inl rfl) (ok_some hf :)
theorem T_X5_readsHen {G : WG} {post : PO} {h : AH} {o : Nat} {x1 : Int32} (hf : OkA (F_X5_readsHen h o x1) (fun q => post (some q.1) q.2)) : Rn G M_X5_readsHen (0, 0) 0 [(0, .ref (ad G o)), (1, .int x1)] [] h post := by
  obtain ⟨_, hf⟩ := ok_ck2 hf
  refine rn_aload_n 1 dX5_readsHen_0 rfl rfl ?_
  refine ro_gtR 4 dX5_readsHen_1 rfl f_X5_13 ft_5_1 hf (fun r1 hf => ?_)
  refine rn_bipush 6 dX5_readsHen_4 rfl bp_25 ?_
  refine ro_iaload 7 dX5_readsHen_6 rfl hf (fun v2 hf => ?_)
  refine rn_istore_n (lv' := [(0, .ref (ad G o)), (1, .int x1), (2, .int v2)]) 8 dX5_readsHen_7 rfl (Nat.le_of_ble_eq_true rfl) rfl ?_
  refine rn_iload_n 9 dX5_readsHen_8 rfl rfl ?_
  refine rn_iconst 10 dX5_readsHen_9 rfl ic_5 ?_
  refine ro_icmp_eq 22 13 dX5_readsHen_10 rfl rfl hf (fun hf => ?_) (fun hf => ?_)
  · refine rn_iconst 23 dX5_readsHen_22 rfl ic_0 ?_
    exact rn_iret .boolean dX5_readsHen_23 rfl rfl (Or.inl rfl) (ok_some hf :)
  · refine rn_aload_n 14 dX5_readsHen_13 rfl rfl ?_
    refine rn_bipush 16 dX5_readsHen_14 rfl bp_9 ?_
    refine ro_cVi (M' := M_X5_number) (As := [.int 9]) (o := o) (st := []) 19 (0, 0) dX5_readsHen_16 rfl l_X5_105 v_X5_number ⟨Nat.le_of_ble_eq_true rfl, Nat.le_of_ble_eq_true rfl⟩ rfl rfl (Nat.le_of_ble_eq_true rfl) (Nat.le_of_ble_eq_true rfl) ⟨rfl, Nat.le_of_ble_eq_true rfl, Nat.le_of_ble_eq_true rfl⟩ hf (fun X z => ok_ck z) rfl (fun X z => T_X5_number z) (fun q3 hf => ?_)
    refine ro_if_ne 24 22 dX5_readsHen_19 rfl rfl hf (fun hf => ?_) (fun hf => ?_)
    · refine rn_aload_n 25 dX5_readsHen_24 rfl rfl ?_
      refine ro_gtR 28 dX5_readsHen_25 rfl f_X5_13 ft_5_1 hf (fun r4 hf => ?_)
      refine rn_bipush 30 dX5_readsHen_28 rfl bp_26 ?_
      refine rn_iload_n 31 dX5_readsHen_30 rfl rfl ?_
      refine rn_iadd 32 dX5_readsHen_31 rfl ?_
      refine rn_iload_n 33 dX5_readsHen_32 rfl rfl ?_
      refine ro_iastore 34 dX5_readsHen_33 rfl hf (fun h5 hf => ?_)
      refine rn_aload_n 35 dX5_readsHen_34 rfl rfl ?_
      refine ro_gtR 38 dX5_readsHen_35 rfl f_X5_13 ft_5_1 hf (fun r6 hf => ?_)
      refine rn_bipush 40 dX5_readsHen_38 rfl bp_31 ?_
      refine rn_iload_n 41 dX5_readsHen_40 rfl rfl ?_
      refine rn_iadd 42 dX5_readsHen_41 rfl ?_
      refine rn_aload_n 43 dX5_readsHen_42 rfl rfl ?_
      refine ro_gtI 46 dX5_readsHen_43 rfl f_X5_84 ft_5_15 hf (fun v7 hf => ?_)
      refine ro_iastore 47 dX5_readsHen_46 rfl hf (fun h8 hf => ?_)
      refine rn_aload_n 48 dX5_readsHen_47 rfl rfl ?_
      refine ro_gtR 51 dX5_readsHen_48 rfl f_X5_13 ft_5_1 hf (fun r9 hf => ?_)
      refine rn_bipush 53 dX5_readsHen_51 rfl bp_25 ?_
      refine rn_dup2 54 dX5_readsHen_53 rfl rfl rfl ?_
      refine ro_iaload 55 dX5_readsHen_54 rfl hf (fun v10 hf => ?_)
      refine rn_iconst 56 dX5_readsHen_55 rfl ic_1 ?_
      refine rn_iadd 57 dX5_readsHen_56 rfl ?_
      refine ro_iastore 58 dX5_readsHen_57 rfl hf (fun h11 hf => ?_)
      refine rn_iconst 59 dX5_readsHen_58 rfl ic_1 ?_
      exact rn_iret .boolean dX5_readsHen_59 rfl rfl (Or.inl rfl) (ok_some hf :)
    · refine rn_iconst 23 dX5_readsHen_22 rfl ic_0 ?_
      exact rn_iret .boolean dX5_readsHen_23 rfl rfl (Or.inl rfl) (ok_some hf :)
