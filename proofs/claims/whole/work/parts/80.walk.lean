theorem T_X1_init {G : WG} {post : PO} {h : AH} {o : Nat} (hf : OkA (F_X1_init h o) (fun q => post none q)) : Rn G M_X1_init (0, 0) 0 [(0, .ref (ad G o))] [] h post := by
  refine rn_aload_n 1 dX1_init_0 rfl rfl ?_
  refine rn_objInit 4 dX1_init_1 rfl l_X1_3 ⟨Nat.le_of_ble_eq_true rfl, Nat.le_of_ble_eq_true rfl⟩ ?_
  refine rn_aload_n 5 dX1_init_4 rfl rfl ?_
  refine rn_sipush 8 dX1_init_5 rfl sp_160 ?_
  refine ro_newa 10 11 (N := 160) dX1_init_8 rfl (Or.inr (Or.inl ⟨rfl, rfl⟩)) (by decide) (by decide) (by decide) (Nat.le_of_ble_eq_true rfl) (Nat.le_of_ble_eq_true rfl) hf (fun h1 hf => ?_)
  refine ro_ptR 13 dX1_init_10 rfl f_X1_9 (Or.inr ⟨rfl, rfl, rfl⟩) ft_1_0 hf (fun h2 hf => ?_)
  exact rn_vret dX1_init_13 rfl (Or.inl rfl) (ok_some hf :)
theorem TL_J7_fill_53178_5 {G : WG} {post : PO} {β : Type} {P : β → Prop} {o0 : Nat} {x1 : Int32} {x3 : Int32} {k : AH → Int32 → Option (β)} (hk : ∀ (h : AH) (x2 : Int32), OkA (k h x2) P → Rn G M_J7_fill_53178 (0, 0) 20 [(0, .ref (ad G o0)), (1, .int x1), (2, .int x2), (3, .int x3)] [] h post) : ∀ (n : Nat) (h : AH) (x2 : Int32), OkA (L_J7_fill_53178_5 o0 x1 x3 k n h x2) P → Rn G M_J7_fill_53178 (0, 0) 5 [(0, .ref (ad G o0)), (1, .int x1), (2, .int x2), (3, .int x3)] [] h post := by
  intro n
  induction n with
  | zero => intro _ _ hf; exact absurd hf ok_none
  | succ n ih =>
    intro h x2 hf
    refine rn_iload_n 6 dJ7_fill_53178_5 rfl rfl ?_
    refine rn_iload_n 7 dJ7_fill_53178_6 rfl rfl ?_
    refine ro_icmp_ge 20 10 dJ7_fill_53178_7 rfl rfl hf (fun hf => ?_) (fun hf => ?_)
    · exact hk _ _ hf
    · refine rn_aload_n 11 dJ7_fill_53178_10 rfl rfl ?_
      refine rn_iload_n 12 dJ7_fill_53178_11 rfl rfl ?_
      refine rn_iload_n 13 dJ7_fill_53178_12 rfl rfl ?_
      refine ro_iastore 14 dJ7_fill_53178_13 rfl hf (fun h1 hf => ?_)
      refine rn_iinc (lv' := [(0, .ref (ad G o0)), (1, .int x1), (2, .int (x2 + 1)), (3, .int x3)]) 17 dJ7_fill_53178_14 rfl (Nat.le_of_ble_eq_true rfl) rfl (inc_1 _) rfl ?_
      refine rn_goto 5 dJ7_fill_53178_17 rfl ?_
      exact ih _ _ hf
theorem T_J7_fill_53178 {G : WG} {post : PO} {h : AH} {o0 : Nat} {x1 : Int32} (hf : OkA (F_J7_fill_53178 h o0 x1) (fun q => post none q)) : Rn G M_J7_fill_53178 (0, 0) 0 [(0, .ref (ad G o0)), (1, .int x1)] [] h post := by
  refine rn_iconst 1 dJ7_fill_53178_0 rfl ic_0 ?_
  refine rn_istore_n (lv' := [(0, .ref (ad G o0)), (1, .int x1), (2, .int 0)]) 2 dJ7_fill_53178_1 rfl (Nat.le_of_ble_eq_true rfl) rfl ?_
  refine rn_aload_n 3 dJ7_fill_53178_2 rfl rfl ?_
  refine ro_arraylength 4 dJ7_fill_53178_3 rfl hf (fun v1 hf => ?_)
  refine rn_istore_n (lv' := [(0, .ref (ad G o0)), (1, .int x1), (2, .int 0), (3, .int v1)]) 5 dJ7_fill_53178_4 rfl (Nat.le_of_ble_eq_true rfl) rfl ?_
  refine TL_J7_fill_53178_5 ?_ FU _ _ hf
  intro h2 y3 hf
  exact rn_vret dJ7_fill_53178_20 rfl (Or.inl rfl) (ok_some hf :)
theorem T_X2_init {G : WG} {post : PO} {h : AH} {o : Nat} (hf : OkA (F_X2_init h o) (fun q => post none q)) : Rn G M_X2_init (0, 0) 0 [(0, .ref (ad G o))] [] h post := by
  refine rn_aload_n 1 dX2_init_0 rfl rfl ?_
  refine rn_objInit 4 dX2_init_1 rfl l_X2_3 ⟨Nat.le_of_ble_eq_true rfl, Nat.le_of_ble_eq_true rfl⟩ ?_
  refine rn_aload_n 5 dX2_init_4 rfl rfl ?_
  refine rn_bipush 7 dX2_init_5 rfl bp_8 ?_
  refine ro_newa 9 10 (N := 8) dX2_init_7 rfl (Or.inl ⟨rfl, rfl⟩) (by decide) (by decide) (by decide) (Nat.le_of_ble_eq_true rfl) (Nat.le_of_ble_eq_true rfl) hf (fun h1 hf => ?_)
  refine ro_ptR 12 dX2_init_9 rfl f_X2_9 (Or.inr ⟨rfl, rfl, rfl⟩) ft_2_2 hf (fun h2 hf => ?_)
  refine rn_aload_n 13 dX2_init_12 rfl rfl ?_
  refine rn_bipush 15 dX2_init_13 rfl bp_8 ?_
  refine ro_newa 17 10 (N := 8) dX2_init_15 rfl (Or.inl ⟨rfl, rfl⟩) (by decide) (by decide) (by decide) (Nat.le_of_ble_eq_true rfl) (Nat.le_of_ble_eq_true rfl) hf (fun h3 hf => ?_)
  refine ro_ptR 20 dX2_init_17 rfl f_X2_15 (Or.inr ⟨rfl, rfl, rfl⟩) ft_2_3 hf (fun h4 hf => ?_)
  refine rn_aload_n 21 dX2_init_20 rfl rfl ?_
  refine rn_bipush 23 dX2_init_21 rfl bp_8 ?_
  refine ro_newa 25 10 (N := 8) dX2_init_23 rfl (Or.inl ⟨rfl, rfl⟩) (by decide) (by decide) (by decide) (Nat.le_of_ble_eq_true rfl) (Nat.le_of_ble_eq_true rfl) hf (fun h5 hf => ?_)
  refine ro_ptR 28 dX2_init_25 rfl f_X2_18 (Or.inr ⟨rfl, rfl, rfl⟩) ft_2_4 hf (fun h6 hf => ?_)
  refine rn_aload_n 29 dX2_init_28 rfl rfl ?_
  refine rn_iconst 30 dX2_init_29 rfl ic_5 ?_
  refine ro_newa 32 10 (N := 5) dX2_init_30 rfl (Or.inl ⟨rfl, rfl⟩) (by decide) (by decide) (by decide) (Nat.le_of_ble_eq_true rfl) (Nat.le_of_ble_eq_true rfl) hf (fun h7 hf => ?_)
  refine ro_ptR 35 dX2_init_32 rfl f_X2_21 (Or.inr ⟨rfl, rfl, rfl⟩) ft_2_5 hf (fun h8 hf => ?_)
  refine rn_aload_n 36 dX2_init_35 rfl rfl ?_
  refine rn_iconst 37 dX2_init_36 rfl ic_5 ?_
  refine ro_newa 39 10 (N := 5) dX2_init_37 rfl (Or.inl ⟨rfl, rfl⟩) (by decide) (by decide) (by decide) (Nat.le_of_ble_eq_true rfl) (Nat.le_of_ble_eq_true rfl) hf (fun h9 hf => ?_)
  refine ro_ptR 42 dX2_init_39 rfl f_X2_24 (Or.inr ⟨rfl, rfl, rfl⟩) ft_2_6 hf (fun h10 hf => ?_)
  refine rn_aload_n 43 dX2_init_42 rfl rfl ?_
  refine rn_bipush 45 dX2_init_43 rfl bp_14 ?_
  refine ro_newa 47 10 (N := 14) dX2_init_45 rfl (Or.inl ⟨rfl, rfl⟩) (by decide) (by decide) (by decide) (Nat.le_of_ble_eq_true rfl) (Nat.le_of_ble_eq_true rfl) hf (fun h11 hf => ?_)
  refine ro_ptR 50 dX2_init_47 rfl f_X2_27 (Or.inr ⟨rfl, rfl, rfl⟩) ft_2_7 hf (fun h12 hf => ?_)
  refine rn_aload_n 51 dX2_init_50 rfl rfl ?_
  refine ro_gtR 54 dX2_init_51 rfl f_X2_27 ft_2_7 hf (fun r13 hf => ?_)
  refine rn_iconst 55 dX2_init_54 rfl ic_m1 ?_
  refine ro_cSv (M' := M_J7_fill_53178) (As := [.ref (ad G r13), .int (-1)]) (st := []) 58 (6, 48) dX2_init_55 rfl l_X2_30 v_J7_fill_53178 ⟨Nat.le_of_ble_eq_true rfl, Nat.le_of_ble_eq_true rfl⟩ rfl rfl (Nat.le_of_ble_eq_true rfl) (Nat.le_of_ble_eq_true rfl) ⟨rfl, Nat.le_of_ble_eq_true rfl, Nat.le_of_ble_eq_true rfl⟩ hf (fun X z => T_J7_fill_53178 z) (fun h14 hf => ?_)
  exact rn_vret dX2_init_58 rfl (Or.inl rfl) (ok_some hf :)
theorem T_X3_init {G : WG} {post : PO} {h : AH} {o : Nat} (hf : OkA (F_X3_init h o) (fun q => post none q)) : Rn G M_X3_init (0, 0) 0 [(0, .ref (ad G o))] [] h post := by
  refine rn_aload_n 1 dX3_init_0 rfl rfl ?_
  refine rn_objInit 4 dX3_init_1 rfl l_X3_3 ⟨Nat.le_of_ble_eq_true rfl, Nat.le_of_ble_eq_true rfl⟩ ?_
  refine rn_aload_n 5 dX3_init_4 rfl rfl ?_
  refine rn_bipush 7 dX3_init_5 rfl bp_8 ?_
  refine ro_newa 9 10 (N := 8) dX3_init_7 rfl (Or.inl ⟨rfl, rfl⟩) (by decide) (by decide) (by decide) (Nat.le_of_ble_eq_true rfl) (Nat.le_of_ble_eq_true rfl) hf (fun h1 hf => ?_)
  refine ro_ptR 12 dX3_init_9 rfl f_X3_9 (Or.inr ⟨rfl, rfl, rfl⟩) ft_3_0 hf (fun h2 hf => ?_)
  refine rn_aload_n 13 dX3_init_12 rfl rfl ?_
  refine rn_bipush 15 dX3_init_13 rfl bp_8 ?_
  refine ro_newa 17 10 (N := 8) dX3_init_15 rfl (Or.inl ⟨rfl, rfl⟩) (by decide) (by decide) (by decide) (Nat.le_of_ble_eq_true rfl) (Nat.le_of_ble_eq_true rfl) hf (fun h3 hf => ?_)
  refine ro_ptR 20 dX3_init_17 rfl f_X3_15 (Or.inr ⟨rfl, rfl, rfl⟩) ft_3_1 hf (fun h4 hf => ?_)
  refine rn_aload_n 21 dX3_init_20 rfl rfl ?_
  refine rn_bipush 23 dX3_init_21 rfl bp_8 ?_
  refine ro_newa 25 10 (N := 8) dX3_init_23 rfl (Or.inl ⟨rfl, rfl⟩) (by decide) (by decide) (by decide) (Nat.le_of_ble_eq_true rfl) (Nat.le_of_ble_eq_true rfl) hf (fun h5 hf => ?_)
  refine ro_ptR 28 dX3_init_25 rfl f_X3_18 (Or.inr ⟨rfl, rfl, rfl⟩) ft_3_2 hf (fun h6 hf => ?_)
  refine rn_aload_n 29 dX3_init_28 rfl rfl ?_
  refine rn_bipush 31 dX3_init_29 rfl bp_8 ?_
  refine ro_newa 33 10 (N := 8) dX3_init_31 rfl (Or.inl ⟨rfl, rfl⟩) (by decide) (by decide) (by decide) (Nat.le_of_ble_eq_true rfl) (Nat.le_of_ble_eq_true rfl) hf (fun h7 hf => ?_)
  refine ro_ptR 36 dX3_init_33 rfl f_X3_21 (Or.inr ⟨rfl, rfl, rfl⟩) ft_3_3 hf (fun h8 hf => ?_)
  refine rn_aload_n 37 dX3_init_36 rfl rfl ?_
  refine rn_iconst 38 dX3_init_37 rfl ic_5 ?_
  refine ro_newa 40 10 (N := 5) dX3_init_38 rfl (Or.inl ⟨rfl, rfl⟩) (by decide) (by decide) (by decide) (Nat.le_of_ble_eq_true rfl) (Nat.le_of_ble_eq_true rfl) hf (fun h9 hf => ?_)
  refine ro_ptR 43 dX3_init_40 rfl f_X3_24 (Or.inr ⟨rfl, rfl, rfl⟩) ft_3_4 hf (fun h10 hf => ?_)
  refine rn_aload_n 44 dX3_init_43 rfl rfl ?_
  refine rn_iconst 45 dX3_init_44 rfl ic_5 ?_
  refine ro_newa 47 10 (N := 5) dX3_init_45 rfl (Or.inl ⟨rfl, rfl⟩) (by decide) (by decide) (by decide) (Nat.le_of_ble_eq_true rfl) (Nat.le_of_ble_eq_true rfl) hf (fun h11 hf => ?_)
  refine ro_ptR 50 dX3_init_47 rfl f_X3_27 (Or.inr ⟨rfl, rfl, rfl⟩) ft_3_5 hf (fun h12 hf => ?_)
  refine rn_aload_n 51 dX3_init_50 rfl rfl ?_
  refine rn_iconst 52 dX3_init_51 rfl ic_5 ?_
  refine ro_newa 54 10 (N := 5) dX3_init_52 rfl (Or.inl ⟨rfl, rfl⟩) (by decide) (by decide) (by decide) (Nat.le_of_ble_eq_true rfl) (Nat.le_of_ble_eq_true rfl) hf (fun h13 hf => ?_)
  refine ro_ptR 57 dX3_init_54 rfl f_X3_30 (Or.inr ⟨rfl, rfl, rfl⟩) ft_3_6 hf (fun h14 hf => ?_)
  refine rn_aload_n 58 dX3_init_57 rfl rfl ?_
  refine rn_iconst 59 dX3_init_58 rfl ic_5 ?_
  refine ro_newa 61 10 (N := 5) dX3_init_59 rfl (Or.inl ⟨rfl, rfl⟩) (by decide) (by decide) (by decide) (Nat.le_of_ble_eq_true rfl) (Nat.le_of_ble_eq_true rfl) hf (fun h15 hf => ?_)
  refine ro_ptR 64 dX3_init_61 rfl f_X3_33 (Or.inr ⟨rfl, rfl, rfl⟩) ft_3_7 hf (fun h16 hf => ?_)
  refine rn_aload_n 65 dX3_init_64 rfl rfl ?_
  refine rn_iconst 66 dX3_init_65 rfl ic_5 ?_
  refine ro_newa 68 10 (N := 5) dX3_init_66 rfl (Or.inl ⟨rfl, rfl⟩) (by decide) (by decide) (by decide) (Nat.le_of_ble_eq_true rfl) (Nat.le_of_ble_eq_true rfl) hf (fun h17 hf => ?_)
  refine ro_ptR 71 dX3_init_68 rfl f_X3_36 (Or.inr ⟨rfl, rfl, rfl⟩) ft_3_8 hf (fun h18 hf => ?_)
  refine rn_aload_n 72 dX3_init_71 rfl rfl ?_
  refine ro_gtR 75 dX3_init_72 rfl f_X3_18 ft_3_2 hf (fun r19 hf => ?_)
  refine rn_iconst 76 dX3_init_75 rfl ic_m1 ?_
  refine ro_cSv (M' := M_J7_fill_53178) (As := [.ref (ad G r19), .int (-1)]) (st := []) 79 (9, 57) dX3_init_76 rfl l_X3_39 v_J7_fill_53178 ⟨Nat.le_of_ble_eq_true rfl, Nat.le_of_ble_eq_true rfl⟩ rfl rfl (Nat.le_of_ble_eq_true rfl) (Nat.le_of_ble_eq_true rfl) ⟨rfl, Nat.le_of_ble_eq_true rfl, Nat.le_of_ble_eq_true rfl⟩ hf (fun X z => T_J7_fill_53178 z) (fun h20 hf => ?_)
  refine rn_aload_n 80 dX3_init_79 rfl rfl ?_
  refine ro_gtR 83 dX3_init_80 rfl f_X3_30 ft_3_6 hf (fun r21 hf => ?_)
  refine rn_iconst 84 dX3_init_83 rfl ic_m1 ?_
  refine ro_cSv (M' := M_J7_fill_53178) (As := [.ref (ad G r21), .int (-1)]) (st := []) 87 (9, 57) dX3_init_84 rfl l_X3_39 v_J7_fill_53178 ⟨Nat.le_of_ble_eq_true rfl, Nat.le_of_ble_eq_true rfl⟩ rfl rfl (Nat.le_of_ble_eq_true rfl) (Nat.le_of_ble_eq_true rfl) ⟨rfl, Nat.le_of_ble_eq_true rfl, Nat.le_of_ble_eq_true rfl⟩ hf (fun X z => T_J7_fill_53178 z) (fun h22 hf => ?_)
  exact rn_vret dX3_init_87 rfl (Or.inl rfl) (ok_some hf :)
theorem T_X0_init {G : WG} {post : PO} {h : AH} {o : Nat} (hf : OkA (F_X0_init h o) (fun q => post none q)) : Rn G M_X0_init (0, 0) 0 [(0, .ref (ad G o))] [] h post := by
  refine rn_aload_n 1 dX0_init_0 rfl rfl ?_
  refine rn_objInit 4 dX0_init_1 rfl l_X0_3 ⟨Nat.le_of_ble_eq_true rfl, Nat.le_of_ble_eq_true rfl⟩ ?_
  refine rn_aload_n 5 dX0_init_4 rfl rfl ?_
  refine rn_bipush 7 dX0_init_5 rfl bp_6 ?_
  refine ro_newa 9 10 (N := 6) dX0_init_7 rfl (Or.inl ⟨rfl, rfl⟩) (by decide) (by decide) (by decide) (Nat.le_of_ble_eq_true rfl) (Nat.le_of_ble_eq_true rfl) hf (fun h1 hf => ?_)
  refine ro_ptR 12 dX0_init_9 rfl f_X0_9 (Or.inr ⟨rfl, rfl, rfl⟩) ft_0_0 hf (fun h2 hf => ?_)
  refine rn_aload_n 13 dX0_init_12 rfl rfl ?_
  refine rn_bipush 15 dX0_init_13 rfl bp_6 ?_
  refine ro_newa 17 10 (N := 6) dX0_init_15 rfl (Or.inl ⟨rfl, rfl⟩) (by decide) (by decide) (by decide) (Nat.le_of_ble_eq_true rfl) (Nat.le_of_ble_eq_true rfl) hf (fun h3 hf => ?_)
  refine ro_ptR 20 dX0_init_17 rfl f_X0_15 (Or.inr ⟨rfl, rfl, rfl⟩) ft_0_1 hf (fun h4 hf => ?_)
  refine rn_aload_n 21 dX0_init_20 rfl rfl ?_
  refine rn_bipush 23 dX0_init_21 rfl bp_6 ?_
  refine ro_newa 25 10 (N := 6) dX0_init_23 rfl (Or.inl ⟨rfl, rfl⟩) (by decide) (by decide) (by decide) (Nat.le_of_ble_eq_true rfl) (Nat.le_of_ble_eq_true rfl) hf (fun h5 hf => ?_)
  refine ro_ptR 28 dX0_init_25 rfl f_X0_18 (Or.inr ⟨rfl, rfl, rfl⟩) ft_0_2 hf (fun h6 hf => ?_)
  exact rn_vret dX0_init_28 rfl (Or.inl rfl) (ok_some hf :)
theorem T_X4_init {G : WG} {post : PO} {h : AH} {o : Nat} (hf : OkA (F_X4_init h o) (fun q => post none q)) : Rn G M_X4_init (0, 0) 0 [(0, .ref (ad G o))] [] h post := by
  refine rn_aload_n 1 dX4_init_0 rfl rfl ?_
  refine rn_objInit 4 dX4_init_1 rfl l_X4_1 ⟨Nat.le_of_ble_eq_true rfl, Nat.le_of_ble_eq_true rfl⟩ ?_
  refine rn_aload_n 5 dX4_init_4 rfl rfl ?_
  refine ro_new 8 1 dX4_init_5 rfl ⟨_, rfl, n_X4_7, i_X1.1, i_X1.2⟩ rfl (Nat.le_of_ble_eq_true rfl) (Nat.le_of_ble_eq_true rfl) hf (fun h1 hf => ?_)
  refine rn_dup 9 dX4_init_8 rfl rfl ?_
  refine ro_cNv (M' := M_X1_init) (As := []) (o := hN h) (st := [.ref (ad G (hN h)), .ref (ad G o)]) 12 (2, 165) dX4_init_9 rfl (Or.inl rfl) v_X1_init ⟨Nat.le_of_ble_eq_true rfl, Nat.le_of_ble_eq_true rfl⟩ rfl rfl (Nat.le_of_ble_eq_true rfl) (Nat.le_of_ble_eq_true rfl) ⟨rfl, Nat.le_of_ble_eq_true rfl, Nat.le_of_ble_eq_true rfl⟩ hf (fun X z => T_X1_init z) (fun h2 hf => ?_)
  refine ro_ptR 15 dX4_init_12 rfl f_X4_10 (Or.inr ⟨rfl, rfl, rfl⟩) ft_4_0 hf (fun h3 hf => ?_)
  refine rn_aload_n 16 dX4_init_15 rfl rfl ?_
  refine ro_new 19 2 dX4_init_16 rfl ⟨_, rfl, n_X4_16, i_X2.1, i_X2.2⟩ rfl (Nat.le_of_ble_eq_true rfl) (Nat.le_of_ble_eq_true rfl) hf (fun h4 hf => ?_)
  refine rn_dup 20 dX4_init_19 rfl rfl ?_
  refine ro_cIv (M' := M_X2_init) (As := []) (o := hN h3) (st := [.ref (ad G (hN h3)), .ref (ad G o)]) 23 (9, 221) dX4_init_20 rfl l_X4_18 v_X2_init ⟨Nat.le_of_ble_eq_true rfl, Nat.le_of_ble_eq_true rfl⟩ rfl rfl (Nat.le_of_ble_eq_true rfl) (Nat.le_of_ble_eq_true rfl) ⟨rfl, Nat.le_of_ble_eq_true rfl, Nat.le_of_ble_eq_true rfl⟩ hf (fun X z => T_X2_init z) (fun h5 hf => ?_)
  refine ro_ptR 26 dX4_init_23 rfl f_X4_19 (Or.inr ⟨rfl, rfl, rfl⟩) ft_4_1 hf (fun h6 hf => ?_)
  refine rn_aload_n 27 dX4_init_26 rfl rfl ?_
  refine ro_new 30 2 dX4_init_27 rfl ⟨_, rfl, n_X4_16, i_X2.1, i_X2.2⟩ rfl (Nat.le_of_ble_eq_true rfl) (Nat.le_of_ble_eq_true rfl) hf (fun h7 hf => ?_)
  refine rn_dup 31 dX4_init_30 rfl rfl ?_
  refine ro_cIv (M' := M_X2_init) (As := []) (o := hN h6) (st := [.ref (ad G (hN h6)), .ref (ad G o)]) 34 (16, 277) dX4_init_31 rfl l_X4_18 v_X2_init ⟨Nat.le_of_ble_eq_true rfl, Nat.le_of_ble_eq_true rfl⟩ rfl rfl (Nat.le_of_ble_eq_true rfl) (Nat.le_of_ble_eq_true rfl) ⟨rfl, Nat.le_of_ble_eq_true rfl, Nat.le_of_ble_eq_true rfl⟩ hf (fun X z => T_X2_init z) (fun h8 hf => ?_)
  refine ro_ptR 37 dX4_init_34 rfl f_X4_23 (Or.inr ⟨rfl, rfl, rfl⟩) ft_4_2 hf (fun h9 hf => ?_)
  refine rn_aload_n 38 dX4_init_37 rfl rfl ?_
  refine ro_new 41 3 dX4_init_38 rfl ⟨_, rfl, n_X4_26, i_X3.1, i_X3.2⟩ rfl (Nat.le_of_ble_eq_true rfl) (Nat.le_of_ble_eq_true rfl) hf (fun h10 hf => ?_)
  refine rn_dup 42 dX4_init_41 rfl rfl ?_
  refine ro_cIv (M' := M_X3_init) (As := []) (o := hN h9) (st := [.ref (ad G (hN h9)), .ref (ad G o)]) 45 (26, 348) dX4_init_42 rfl l_X4_28 v_X3_init ⟨Nat.le_of_ble_eq_true rfl, Nat.le_of_ble_eq_true rfl⟩ rfl rfl (Nat.le_of_ble_eq_true rfl) (Nat.le_of_ble_eq_true rfl) ⟨rfl, Nat.le_of_ble_eq_true rfl, Nat.le_of_ble_eq_true rfl⟩ hf (fun X z => T_X3_init z) (fun h11 hf => ?_)
  refine ro_ptR 48 dX4_init_45 rfl f_X4_29 (Or.inr ⟨rfl, rfl, rfl⟩) ft_4_3 hf (fun h12 hf => ?_)
  refine rn_aload_n 49 dX4_init_48 rfl rfl ?_
  refine ro_new 52 3 dX4_init_49 rfl ⟨_, rfl, n_X4_26, i_X3.1, i_X3.2⟩ rfl (Nat.le_of_ble_eq_true rfl) (Nat.le_of_ble_eq_true rfl) hf (fun h13 hf => ?_)
  refine rn_dup 53 dX4_init_52 rfl rfl ?_
  refine ro_cIv (M' := M_X3_init) (As := []) (o := hN h12) (st := [.ref (ad G (hN h12)), .ref (ad G o)]) 56 (36, 419) dX4_init_53 rfl l_X4_28 v_X3_init ⟨Nat.le_of_ble_eq_true rfl, Nat.le_of_ble_eq_true rfl⟩ rfl rfl (Nat.le_of_ble_eq_true rfl) (Nat.le_of_ble_eq_true rfl) ⟨rfl, Nat.le_of_ble_eq_true rfl, Nat.le_of_ble_eq_true rfl⟩ hf (fun X z => T_X3_init z) (fun h14 hf => ?_)
  refine ro_ptR 59 dX4_init_56 rfl f_X4_33 (Or.inr ⟨rfl, rfl, rfl⟩) ft_4_4 hf (fun h15 hf => ?_)
  refine rn_aload_n 60 dX4_init_59 rfl rfl ?_
  refine rn_bipush 62 dX4_init_60 rfl bp_8 ?_
  refine ro_newq 65 (N := 8) dX4_init_62 rfl n_X4_26 (by decide) (by decide) (by decide) (Nat.le_of_ble_eq_true rfl) (Nat.le_of_ble_eq_true rfl) hf (fun h16 hf => ?_)
  refine ro_ptR 68 dX4_init_65 rfl f_X4_36 (Or.inr ⟨rfl, rfl, rfl⟩) ft_4_5 hf (fun h17 hf => ?_)
  refine rn_aload_n 69 dX4_init_68 rfl rfl ?_
  refine rn_iconst 70 dX4_init_69 rfl ic_2 ?_
  refine ro_newq 73 (N := 2) dX4_init_70 rfl n_X4_26 (by decide) (by decide) (by decide) (Nat.le_of_ble_eq_true rfl) (Nat.le_of_ble_eq_true rfl) hf (fun h18 hf => ?_)
  refine ro_ptR 76 dX4_init_73 rfl f_X4_40 (Or.inr ⟨rfl, rfl, rfl⟩) ft_4_7 hf (fun h19 hf => ?_)
  refine rn_aload_n 77 dX4_init_76 rfl rfl ?_
  refine rn_iconst 78 dX4_init_77 rfl ic_2 ?_
  refine ro_newa 80 12 (N := 2) dX4_init_78 rfl (Or.inr (Or.inr ⟨rfl, rfl⟩)) (by decide) (by decide) (by decide) (Nat.le_of_ble_eq_true rfl) (Nat.le_of_ble_eq_true rfl) hf (fun h20 hf => ?_)
  refine ro_ptR 83 dX4_init_80 rfl f_X4_43 (Or.inr ⟨rfl, rfl, rfl⟩) ft_4_8 hf (fun h21 hf => ?_)
  refine rn_aload_n 84 dX4_init_83 rfl rfl ?_
  refine ro_new 87 0 dX4_init_84 rfl ⟨_, rfl, n_X4_47, i_X0.1, i_X0.2⟩ rfl (Nat.le_of_ble_eq_true rfl) (Nat.le_of_ble_eq_true rfl) hf (fun h22 hf => ?_)
  refine rn_dup 88 dX4_init_87 rfl rfl ?_
  refine ro_cNv (M' := M_X0_init) (As := []) (o := hN h21) (st := [.ref (ad G (hN h21)), .ref (ad G o)]) 91 (43, 453) dX4_init_88 rfl (Or.inr rfl) v_X0_init ⟨Nat.le_of_ble_eq_true rfl, Nat.le_of_ble_eq_true rfl⟩ rfl rfl (Nat.le_of_ble_eq_true rfl) (Nat.le_of_ble_eq_true rfl) ⟨rfl, Nat.le_of_ble_eq_true rfl, Nat.le_of_ble_eq_true rfl⟩ hf (fun X z => T_X0_init z) (fun h23 hf => ?_)
  refine ro_ptR 94 dX4_init_91 rfl f_X4_50 (Or.inr ⟨rfl, rfl, rfl⟩) ft_4_9 hf (fun h24 hf => ?_)
  refine rn_aload_n 95 dX4_init_94 rfl rfl ?_
  refine rn_bipush 97 dX4_init_95 rfl bp_64 ?_
  refine ro_newa 99 10 (N := 64) dX4_init_97 rfl (Or.inl ⟨rfl, rfl⟩) (by decide) (by decide) (by decide) (Nat.le_of_ble_eq_true rfl) (Nat.le_of_ble_eq_true rfl) hf (fun h25 hf => ?_)
  refine ro_ptR 102 dX4_init_99 rfl f_X4_54 (Or.inr ⟨rfl, rfl, rfl⟩) ft_4_10 hf (fun h26 hf => ?_)
  refine rn_iconst 103 dX4_init_102 rfl ic_0 ?_
  refine rn_istore_n (lv' := [(0, .ref (ad G o)), (1, .int 0)]) 104 dX4_init_103 rfl (Nat.le_of_ble_eq_true rfl) rfl ?_
  refine rn_iload_n 105 dX4_init_104 rfl rfl ?_
  refine rn_bipush 107 dX4_init_105 rfl bp_8 ?_
  refine rn_icmp_ge 129 110 dX4_init_107 rfl rfl (fun z => absurd z (by decide)) (fun _ => ?_)
  refine rn_aload_n 111 dX4_init_110 rfl rfl ?_
  refine ro_gtR 114 dX4_init_111 rfl f_X4_36 ft_4_5 hf (fun r27 hf => ?_)
  refine rn_iload_n 115 dX4_init_114 rfl rfl ?_
  refine ro_new 118 3 dX4_init_115 rfl ⟨_, rfl, n_X4_26, i_X3.1, i_X3.2⟩ rfl (Nat.le_of_ble_eq_true rfl) (Nat.le_of_ble_eq_true rfl) hf (fun h28 hf => ?_)
  refine rn_dup 119 dX4_init_118 rfl rfl ?_
  refine ro_cIv (M' := M_X3_init) (As := []) (o := hN h26) (st := [.ref (ad G (hN h26)), .int 0, .ref (ad G r27)]) 122 (54, 588) dX4_init_119 rfl l_X4_28 v_X3_init ⟨Nat.le_of_ble_eq_true rfl, Nat.le_of_ble_eq_true rfl⟩ rfl rfl (Nat.le_of_ble_eq_true rfl) (Nat.le_of_ble_eq_true rfl) ⟨rfl, Nat.le_of_ble_eq_true rfl, Nat.le_of_ble_eq_true rfl⟩ hf (fun X z => T_X3_init z) (fun h29 hf => ?_)
  refine ro_aastore 123 dX4_init_122 rfl hf (fun h30 hf => ?_)
  refine rn_iinc (lv' := [(0, .ref (ad G o)), (1, .int (0 + 1))]) 126 dX4_init_123 rfl (Nat.le_of_ble_eq_true rfl) rfl (inc_1 _) rfl ?_
  refine rn_goto 104 dX4_init_126 rfl ?_
  refine rn_iload_n 105 dX4_init_104 rfl rfl ?_
  refine rn_bipush 107 dX4_init_105 rfl bp_8 ?_
  refine rn_icmp_ge 129 110 dX4_init_107 rfl rfl (fun z => absurd z (by decide)) (fun _ => ?_)
  refine rn_aload_n 111 dX4_init_110 rfl rfl ?_
  refine ro_gtR 114 dX4_init_111 rfl f_X4_36 ft_4_5 hf (fun r31 hf => ?_)
  refine rn_iload_n 115 dX4_init_114 rfl rfl ?_
  refine ro_new 118 3 dX4_init_115 rfl ⟨_, rfl, n_X4_26, i_X3.1, i_X3.2⟩ rfl (Nat.le_of_ble_eq_true rfl) (Nat.le_of_ble_eq_true rfl) hf (fun h32 hf => ?_)
  refine rn_dup 119 dX4_init_118 rfl rfl ?_
  refine ro_cIv (M' := M_X3_init) (As := []) (o := hN h30) (st := [.ref (ad G (hN h30)), .int (0 + 1), .ref (ad G r31)]) 122 (64, 659) dX4_init_119 rfl l_X4_28 v_X3_init ⟨Nat.le_of_ble_eq_true rfl, Nat.le_of_ble_eq_true rfl⟩ rfl rfl (Nat.le_of_ble_eq_true rfl) (Nat.le_of_ble_eq_true rfl) ⟨rfl, Nat.le_of_ble_eq_true rfl, Nat.le_of_ble_eq_true rfl⟩ hf (fun X z => T_X3_init z) (fun h33 hf => ?_)
  refine ro_aastore 123 dX4_init_122 rfl hf (fun h34 hf => ?_)
  refine rn_iinc (lv' := [(0, .ref (ad G o)), (1, .int ((0 + 1) + 1))]) 126 dX4_init_123 rfl (Nat.le_of_ble_eq_true rfl) rfl (inc_1 _) rfl ?_
  refine rn_goto 104 dX4_init_126 rfl ?_
  refine rn_iload_n 105 dX4_init_104 rfl rfl ?_
  refine rn_bipush 107 dX4_init_105 rfl bp_8 ?_
  refine rn_icmp_ge 129 110 dX4_init_107 rfl rfl (fun z => absurd z (by decide)) (fun _ => ?_)
  refine rn_aload_n 111 dX4_init_110 rfl rfl ?_
  refine ro_gtR 114 dX4_init_111 rfl f_X4_36 ft_4_5 hf (fun r35 hf => ?_)
  refine rn_iload_n 115 dX4_init_114 rfl rfl ?_
  refine ro_new 118 3 dX4_init_115 rfl ⟨_, rfl, n_X4_26, i_X3.1, i_X3.2⟩ rfl (Nat.le_of_ble_eq_true rfl) (Nat.le_of_ble_eq_true rfl) hf (fun h36 hf => ?_)
  refine rn_dup 119 dX4_init_118 rfl rfl ?_
  refine ro_cIv (M' := M_X3_init) (As := []) (o := hN h34) (st := [.ref (ad G (hN h34)), .int ((0 + 1) + 1), .ref (ad G r35)]) 122 (74, 730) dX4_init_119 rfl l_X4_28 v_X3_init ⟨Nat.le_of_ble_eq_true rfl, Nat.le_of_ble_eq_true rfl⟩ rfl rfl (Nat.le_of_ble_eq_true rfl) (Nat.le_of_ble_eq_true rfl) ⟨rfl, Nat.le_of_ble_eq_true rfl, Nat.le_of_ble_eq_true rfl⟩ hf (fun X z => T_X3_init z) (fun h37 hf => ?_)
  refine ro_aastore 123 dX4_init_122 rfl hf (fun h38 hf => ?_)
  refine rn_iinc (lv' := [(0, .ref (ad G o)), (1, .int (((0 + 1) + 1) + 1))]) 126 dX4_init_123 rfl (Nat.le_of_ble_eq_true rfl) rfl (inc_1 _) rfl ?_
  refine rn_goto 104 dX4_init_126 rfl ?_
  refine rn_iload_n 105 dX4_init_104 rfl rfl ?_
  refine rn_bipush 107 dX4_init_105 rfl bp_8 ?_
  refine rn_icmp_ge 129 110 dX4_init_107 rfl rfl (fun z => absurd z (by decide)) (fun _ => ?_)
  refine rn_aload_n 111 dX4_init_110 rfl rfl ?_
  refine ro_gtR 114 dX4_init_111 rfl f_X4_36 ft_4_5 hf (fun r39 hf => ?_)
  refine rn_iload_n 115 dX4_init_114 rfl rfl ?_
  refine ro_new 118 3 dX4_init_115 rfl ⟨_, rfl, n_X4_26, i_X3.1, i_X3.2⟩ rfl (Nat.le_of_ble_eq_true rfl) (Nat.le_of_ble_eq_true rfl) hf (fun h40 hf => ?_)
  refine rn_dup 119 dX4_init_118 rfl rfl ?_
  refine ro_cIv (M' := M_X3_init) (As := []) (o := hN h38) (st := [.ref (ad G (hN h38)), .int (((0 + 1) + 1) + 1), .ref (ad G r39)]) 122 (84, 801) dX4_init_119 rfl l_X4_28 v_X3_init ⟨Nat.le_of_ble_eq_true rfl, Nat.le_of_ble_eq_true rfl⟩ rfl rfl (Nat.le_of_ble_eq_true rfl) (Nat.le_of_ble_eq_true rfl) ⟨rfl, Nat.le_of_ble_eq_true rfl, Nat.le_of_ble_eq_true rfl⟩ hf (fun X z => T_X3_init z) (fun h41 hf => ?_)
  refine ro_aastore 123 dX4_init_122 rfl hf (fun h42 hf => ?_)
  refine rn_iinc (lv' := [(0, .ref (ad G o)), (1, .int ((((0 + 1) + 1) + 1) + 1))]) 126 dX4_init_123 rfl (Nat.le_of_ble_eq_true rfl) rfl (inc_1 _) rfl ?_
  refine rn_goto 104 dX4_init_126 rfl ?_
  refine rn_iload_n 105 dX4_init_104 rfl rfl ?_
  refine rn_bipush 107 dX4_init_105 rfl bp_8 ?_
  refine rn_icmp_ge 129 110 dX4_init_107 rfl rfl (fun z => absurd z (by decide)) (fun _ => ?_)
  refine rn_aload_n 111 dX4_init_110 rfl rfl ?_
  refine ro_gtR 114 dX4_init_111 rfl f_X4_36 ft_4_5 hf (fun r43 hf => ?_)
  refine rn_iload_n 115 dX4_init_114 rfl rfl ?_
  refine ro_new 118 3 dX4_init_115 rfl ⟨_, rfl, n_X4_26, i_X3.1, i_X3.2⟩ rfl (Nat.le_of_ble_eq_true rfl) (Nat.le_of_ble_eq_true rfl) hf (fun h44 hf => ?_)
  refine rn_dup 119 dX4_init_118 rfl rfl ?_
  refine ro_cIv (M' := M_X3_init) (As := []) (o := hN h42) (st := [.ref (ad G (hN h42)), .int ((((0 + 1) + 1) + 1) + 1), .ref (ad G r43)]) 122 (94, 872) dX4_init_119 rfl l_X4_28 v_X3_init ⟨Nat.le_of_ble_eq_true rfl, Nat.le_of_ble_eq_true rfl⟩ rfl rfl (Nat.le_of_ble_eq_true rfl) (Nat.le_of_ble_eq_true rfl) ⟨rfl, Nat.le_of_ble_eq_true rfl, Nat.le_of_ble_eq_true rfl⟩ hf (fun X z => T_X3_init z) (fun h45 hf => ?_)
  refine ro_aastore 123 dX4_init_122 rfl hf (fun h46 hf => ?_)
  refine rn_iinc (lv' := [(0, .ref (ad G o)), (1, .int (((((0 + 1) + 1) + 1) + 1) + 1))]) 126 dX4_init_123 rfl (Nat.le_of_ble_eq_true rfl) rfl (inc_1 _) rfl ?_
  refine rn_goto 104 dX4_init_126 rfl ?_
  refine rn_iload_n 105 dX4_init_104 rfl rfl ?_
  refine rn_bipush 107 dX4_init_105 rfl bp_8 ?_
  refine rn_icmp_ge 129 110 dX4_init_107 rfl rfl (fun z => absurd z (by decide)) (fun _ => ?_)
  refine rn_aload_n 111 dX4_init_110 rfl rfl ?_
  refine ro_gtR 114 dX4_init_111 rfl f_X4_36 ft_4_5 hf (fun r47 hf => ?_)
  refine rn_iload_n 115 dX4_init_114 rfl rfl ?_
  refine ro_new 118 3 dX4_init_115 rfl ⟨_, rfl, n_X4_26, i_X3.1, i_X3.2⟩ rfl (Nat.le_of_ble_eq_true rfl) (Nat.le_of_ble_eq_true rfl) hf (fun h48 hf => ?_)
  refine rn_dup 119 dX4_init_118 rfl rfl ?_
  refine ro_cIv (M' := M_X3_init) (As := []) (o := hN h46) (st := [.ref (ad G (hN h46)), .int (((((0 + 1) + 1) + 1) + 1) + 1), .ref (ad G r47)]) 122 (104, 943) dX4_init_119 rfl l_X4_28 v_X3_init ⟨Nat.le_of_ble_eq_true rfl, Nat.le_of_ble_eq_true rfl⟩ rfl rfl (Nat.le_of_ble_eq_true rfl) (Nat.le_of_ble_eq_true rfl) ⟨rfl, Nat.le_of_ble_eq_true rfl, Nat.le_of_ble_eq_true rfl⟩ hf (fun X z => T_X3_init z) (fun h49 hf => ?_)
  refine ro_aastore 123 dX4_init_122 rfl hf (fun h50 hf => ?_)
  refine rn_iinc (lv' := [(0, .ref (ad G o)), (1, .int ((((((0 + 1) + 1) + 1) + 1) + 1) + 1))]) 126 dX4_init_123 rfl (Nat.le_of_ble_eq_true rfl) rfl (inc_1 _) rfl ?_
  refine rn_goto 104 dX4_init_126 rfl ?_
  refine rn_iload_n 105 dX4_init_104 rfl rfl ?_
  refine rn_bipush 107 dX4_init_105 rfl bp_8 ?_
  refine rn_icmp_ge 129 110 dX4_init_107 rfl rfl (fun z => absurd z (by decide)) (fun _ => ?_)
  refine rn_aload_n 111 dX4_init_110 rfl rfl ?_
  refine ro_gtR 114 dX4_init_111 rfl f_X4_36 ft_4_5 hf (fun r51 hf => ?_)
  refine rn_iload_n 115 dX4_init_114 rfl rfl ?_
  refine ro_new 118 3 dX4_init_115 rfl ⟨_, rfl, n_X4_26, i_X3.1, i_X3.2⟩ rfl (Nat.le_of_ble_eq_true rfl) (Nat.le_of_ble_eq_true rfl) hf (fun h52 hf => ?_)
  refine rn_dup 119 dX4_init_118 rfl rfl ?_
  refine ro_cIv (M' := M_X3_init) (As := []) (o := hN h50) (st := [.ref (ad G (hN h50)), .int ((((((0 + 1) + 1) + 1) + 1) + 1) + 1), .ref (ad G r51)]) 122 (114, 1014) dX4_init_119 rfl l_X4_28 v_X3_init ⟨Nat.le_of_ble_eq_true rfl, Nat.le_of_ble_eq_true rfl⟩ rfl rfl (Nat.le_of_ble_eq_true rfl) (Nat.le_of_ble_eq_true rfl) ⟨rfl, Nat.le_of_ble_eq_true rfl, Nat.le_of_ble_eq_true rfl⟩ hf (fun X z => T_X3_init z) (fun h53 hf => ?_)
  refine ro_aastore 123 dX4_init_122 rfl hf (fun h54 hf => ?_)
  refine rn_iinc (lv' := [(0, .ref (ad G o)), (1, .int (((((((0 + 1) + 1) + 1) + 1) + 1) + 1) + 1))]) 126 dX4_init_123 rfl (Nat.le_of_ble_eq_true rfl) rfl (inc_1 _) rfl ?_
  refine rn_goto 104 dX4_init_126 rfl ?_
  refine rn_iload_n 105 dX4_init_104 rfl rfl ?_
  refine rn_bipush 107 dX4_init_105 rfl bp_8 ?_
  refine rn_icmp_ge 129 110 dX4_init_107 rfl rfl (fun z => absurd z (by decide)) (fun _ => ?_)
  refine rn_aload_n 111 dX4_init_110 rfl rfl ?_
  refine ro_gtR 114 dX4_init_111 rfl f_X4_36 ft_4_5 hf (fun r55 hf => ?_)
  refine rn_iload_n 115 dX4_init_114 rfl rfl ?_
  refine ro_new 118 3 dX4_init_115 rfl ⟨_, rfl, n_X4_26, i_X3.1, i_X3.2⟩ rfl (Nat.le_of_ble_eq_true rfl) (Nat.le_of_ble_eq_true rfl) hf (fun h56 hf => ?_)
  refine rn_dup 119 dX4_init_118 rfl rfl ?_
  refine ro_cIv (M' := M_X3_init) (As := []) (o := hN h54) (st := [.ref (ad G (hN h54)), .int (((((((0 + 1) + 1) + 1) + 1) + 1) + 1) + 1), .ref (ad G r55)]) 122 (124, 1085) dX4_init_119 rfl l_X4_28 v_X3_init ⟨Nat.le_of_ble_eq_true rfl, Nat.le_of_ble_eq_true rfl⟩ rfl rfl (Nat.le_of_ble_eq_true rfl) (Nat.le_of_ble_eq_true rfl) ⟨rfl, Nat.le_of_ble_eq_true rfl, Nat.le_of_ble_eq_true rfl⟩ hf (fun X z => T_X3_init z) (fun h57 hf => ?_)
  refine ro_aastore 123 dX4_init_122 rfl hf (fun h58 hf => ?_)
  refine rn_iinc (lv' := [(0, .ref (ad G o)), (1, .int ((((((((0 + 1) + 1) + 1) + 1) + 1) + 1) + 1) + 1))]) 126 dX4_init_123 rfl (Nat.le_of_ble_eq_true rfl) rfl (inc_1 _) rfl ?_
  refine rn_goto 104 dX4_init_126 rfl ?_
  refine rn_iload_n 105 dX4_init_104 rfl rfl ?_
  refine rn_bipush 107 dX4_init_105 rfl bp_8 ?_
  refine rn_icmp_ge 129 110 dX4_init_107 rfl rfl (fun _ => ?_) (fun z => absurd (by decide) z)
  refine rn_iconst 130 dX4_init_129 rfl ic_0 ?_
  refine rn_istore_n (lv' := [(0, .ref (ad G o)), (1, .int 0)]) 131 dX4_init_130 rfl (Nat.le_of_ble_eq_true rfl) rfl ?_
  refine rn_iload_n 132 dX4_init_131 rfl rfl ?_
  refine rn_iconst 133 dX4_init_132 rfl ic_2 ?_
  refine rn_icmp_ge 155 136 dX4_init_133 rfl rfl (fun z => absurd z (by decide)) (fun _ => ?_)
  refine rn_aload_n 137 dX4_init_136 rfl rfl ?_
  refine ro_gtR 140 dX4_init_137 rfl f_X4_40 ft_4_7 hf (fun r59 hf => ?_)
  refine rn_iload_n 141 dX4_init_140 rfl rfl ?_
  refine ro_new 144 3 dX4_init_141 rfl ⟨_, rfl, n_X4_26, i_X3.1, i_X3.2⟩ rfl (Nat.le_of_ble_eq_true rfl) (Nat.le_of_ble_eq_true rfl) hf (fun h60 hf => ?_)
  refine rn_dup 145 dX4_init_144 rfl rfl ?_
  refine ro_cIv (M' := M_X3_init) (As := []) (o := hN h58) (st := [.ref (ad G (hN h58)), .int 0, .ref (ad G r59)]) 148 (134, 1156) dX4_init_145 rfl l_X4_28 v_X3_init ⟨Nat.le_of_ble_eq_true rfl, Nat.le_of_ble_eq_true rfl⟩ rfl rfl (Nat.le_of_ble_eq_true rfl) (Nat.le_of_ble_eq_true rfl) ⟨rfl, Nat.le_of_ble_eq_true rfl, Nat.le_of_ble_eq_true rfl⟩ hf (fun X z => T_X3_init z) (fun h61 hf => ?_)
  refine ro_aastore 149 dX4_init_148 rfl hf (fun h62 hf => ?_)
  refine rn_iinc (lv' := [(0, .ref (ad G o)), (1, .int (0 + 1))]) 152 dX4_init_149 rfl (Nat.le_of_ble_eq_true rfl) rfl (inc_1 _) rfl ?_
  refine rn_goto 131 dX4_init_152 rfl ?_
  refine rn_iload_n 132 dX4_init_131 rfl rfl ?_
  refine rn_iconst 133 dX4_init_132 rfl ic_2 ?_
  refine rn_icmp_ge 155 136 dX4_init_133 rfl rfl (fun z => absurd z (by decide)) (fun _ => ?_)
  refine rn_aload_n 137 dX4_init_136 rfl rfl ?_
  refine ro_gtR 140 dX4_init_137 rfl f_X4_40 ft_4_7 hf (fun r63 hf => ?_)
  refine rn_iload_n 141 dX4_init_140 rfl rfl ?_
  refine ro_new 144 3 dX4_init_141 rfl ⟨_, rfl, n_X4_26, i_X3.1, i_X3.2⟩ rfl (Nat.le_of_ble_eq_true rfl) (Nat.le_of_ble_eq_true rfl) hf (fun h64 hf => ?_)
  refine rn_dup 145 dX4_init_144 rfl rfl ?_
  refine ro_cIv (M' := M_X3_init) (As := []) (o := hN h62) (st := [.ref (ad G (hN h62)), .int (0 + 1), .ref (ad G r63)]) 148 (144, 1227) dX4_init_145 rfl l_X4_28 v_X3_init ⟨Nat.le_of_ble_eq_true rfl, Nat.le_of_ble_eq_true rfl⟩ rfl rfl (Nat.le_of_ble_eq_true rfl) (Nat.le_of_ble_eq_true rfl) ⟨rfl, Nat.le_of_ble_eq_true rfl, Nat.le_of_ble_eq_true rfl⟩ hf (fun X z => T_X3_init z) (fun h65 hf => ?_)
  refine ro_aastore 149 dX4_init_148 rfl hf (fun h66 hf => ?_)
  refine rn_iinc (lv' := [(0, .ref (ad G o)), (1, .int ((0 + 1) + 1))]) 152 dX4_init_149 rfl (Nat.le_of_ble_eq_true rfl) rfl (inc_1 _) rfl ?_
  refine rn_goto 131 dX4_init_152 rfl ?_
  refine rn_iload_n 132 dX4_init_131 rfl rfl ?_
  refine rn_iconst 133 dX4_init_132 rfl ic_2 ?_
  refine rn_icmp_ge 155 136 dX4_init_133 rfl rfl (fun _ => ?_) (fun z => absurd (by decide) z)
  exact rn_vret dX4_init_155 rfl (Or.inl rfl) (ok_some hf :)
theorem TL_X5_blank_2 {G : WG} {post : PO} {β : Type} {P : β → Prop} {o0 : Nat} {k : AH → Int32 → Option (β)} (hk : ∀ (h : AH) (x1 : Int32), OkA (k h x1) P → Rn G M_X5_blank (0, 0) 28 [(0, .ref (ad G o0)), (1, .int x1)] [] h post) : ∀ (n : Nat) (h : AH) (x1 : Int32), OkA (L_X5_blank_2 o0 k n h x1) P → Rn G M_X5_blank (0, 0) 2 [(0, .ref (ad G o0)), (1, .int x1)] [] h post := by
  intro n
  induction n with
  | zero => intro _ _ hf; exact absurd hf ok_none
  | succ n ih =>
    intro h x1 hf
    refine rn_iload_n 3 dX5_blank_2 rfl rfl ?_
    refine rn_bipush 5 dX5_blank_3 rfl bp_50 ?_
    refine ro_icmp_ge 28 8 dX5_blank_5 rfl rfl hf (fun hf => ?_) (fun hf => ?_)
    · exact hk _ _ hf
    · refine rn_aload_n 9 dX5_blank_8 rfl rfl ?_
      refine rn_iload_n 10 dX5_blank_9 rfl rfl ?_
      refine rn_iload_n 11 dX5_blank_10 rfl rfl ?_
      refine rn_bipush 13 dX5_blank_11 rfl bp_36 ?_
      refine ro_reg (X := (fun q1 : Int32 => Rn G M_X5_blank (0, 0) 21 [(0, .ref (ad G o0)), (1, .int x1)] [.int q1, .int x1, .ref (ad G o0)] h post)) hf (fun q1 hf => ?_) (fun hf => ?_)
      · refine ro_iastore 22 dX5_blank_21 rfl hf (fun h2 hf => ?_)
        refine rn_iinc (lv' := [(0, .ref (ad G o0)), (1, .int (x1 + 1))]) 25 dX5_blank_22 rfl (Nat.le_of_ble_eq_true rfl) rfl (inc_1 _) rfl ?_
        refine rn_goto 2 dX5_blank_25 rfl ?_
        exact ih _ _ hf
      · refine ro_icmp_ge 20 16 dX5_blank_13 rfl rfl hf (fun hf => ?_) (fun hf => ?_)
        · refine rn_iconst 21 dX5_blank_20 rfl ic_m1 ?_
          exact (ok_some hf :)
        · refine rn_iconst 17 dX5_blank_16 rfl ic_0 ?_
          refine rn_goto 21 dX5_blank_17 rfl ?_
          exact (ok_some hf :)
theorem T_X5_blank {G : WG} {post : PO} {h : AH} {o0 : Nat} (hf : OkA (F_X5_blank h o0) (fun q => post none q)) : Rn G M_X5_blank (0, 0) 0 [(0, .ref (ad G o0))] [] h post := by
  refine rn_iconst 1 dX5_blank_0 rfl ic_0 ?_
  refine rn_istore_n (lv' := [(0, .ref (ad G o0)), (1, .int 0)]) 2 dX5_blank_1 rfl (Nat.le_of_ble_eq_true rfl) rfl ?_
  refine TL_X5_blank_2 ?_ FU _ _ hf
  intro h3 y4 hf
  exact rn_vret dX5_blank_28 rfl (Or.inl rfl) (ok_some hf :)
theorem TL_X5_begins_2 {G : WG} {post : PO} {β : Type} {P : β → Prop} {o0 : Nat} {k : AH → Int32 → Option (β)} (hk : ∀ (h : AH) (x1 : Int32), OkA (k h x1) P → Rn G M_X5_begins (0, 0) 21 [(0, .ref (ad G o0)), (1, .int x1)] [] h post) : ∀ (n : Nat) (h : AH) (x1 : Int32), OkA (L_X5_begins_2 o0 k n h x1) P → Rn G M_X5_begins (0, 0) 2 [(0, .ref (ad G o0)), (1, .int x1)] [] h post := by
  intro n
  induction n with
  | zero => intro _ _ hf; exact absurd hf ok_none
  | succ n ih =>
    intro h x1 hf
    refine rn_iload_n 3 dX5_begins_2 rfl rfl ?_
    refine rn_bipush 5 dX5_begins_3 rfl bp_52 ?_
    refine ro_icmp_ge 21 8 dX5_begins_5 rfl rfl hf (fun hf => ?_) (fun hf => ?_)
    · exact hk _ _ hf
    · refine rn_aload_n 9 dX5_begins_8 rfl rfl ?_
      refine ro_gtR 12 dX5_begins_9 rfl f_X5_16 ft_5_2 hf (fun r1 hf => ?_)
      refine rn_iload_n 13 dX5_begins_12 rfl rfl ?_
      refine rn_iconst 14 dX5_begins_13 rfl ic_0 ?_
      refine ro_iastore 15 dX5_begins_14 rfl hf (fun h2 hf => ?_)
      refine rn_iinc (lv' := [(0, .ref (ad G o0)), (1, .int (x1 + 1))]) 18 dX5_begins_15 rfl (Nat.le_of_ble_eq_true rfl) rfl (inc_1 _) rfl ?_
      refine rn_goto 2 dX5_begins_18 rfl ?_
      exact ih _ _ hf
theorem TL_X5_begins_23 {G : WG} {post : PO} {β : Type} {P : β → Prop} {o0 : Nat} {k : AH → Int32 → Option (β)} (hk : ∀ (h : AH) (x1 : Int32), OkA (k h x1) P → Rn G M_X5_begins (0, 0) 79 [(0, .ref (ad G o0)), (1, .int x1)] [] h post) : ∀ (n : Nat) (h : AH) (x1 : Int32), OkA (L_X5_begins_23 o0 k n h x1) P → Rn G M_X5_begins (0, 0) 23 [(0, .ref (ad G o0)), (1, .int x1)] [] h post := by
  intro n
  induction n with
  | zero => intro _ _ hf; exact absurd hf ok_none
  | succ n ih =>
    intro h x1 hf
    refine rn_iload_n 24 dX5_begins_23 rfl rfl ?_
    refine rn_bipush 26 dX5_begins_24 rfl bp_8 ?_
    refine ro_icmp_ge 79 29 dX5_begins_26 rfl rfl hf (fun hf => ?_) (fun hf => ?_)
    · exact hk _ _ hf
    · refine rn_aload_n 30 dX5_begins_29 rfl rfl ?_
      refine ro_gtR 33 dX5_begins_30 rfl f_X5_16 ft_5_2 hf (fun r1 hf => ?_)
      refine rn_iconst 34 dX5_begins_33 rfl ic_2 ?_
      refine rn_iload_n 35 dX5_begins_34 rfl rfl ?_
      refine rn_iadd 36 dX5_begins_35 rfl ?_
      refine rn_aload_n 37 dX5_begins_36 rfl rfl ?_
      refine ro_gtR 40 dX5_begins_37 rfl f_X5_7 ft_5_0 hf (fun r2 hf => ?_)
      refine rn_iconst 41 dX5_begins_40 rfl ic_1 ?_
      refine rn_iload_n 42 dX5_begins_41 rfl rfl ?_
      refine rn_iadd 43 dX5_begins_42 rfl ?_
      refine ro_iaload 44 dX5_begins_43 rfl hf (fun v3 hf => ?_)
      refine ro_iastore 45 dX5_begins_44 rfl hf (fun h4 hf => ?_)
      refine rn_aload_n 46 dX5_begins_45 rfl rfl ?_
      refine ro_gtR 49 dX5_begins_46 rfl f_X5_16 ft_5_2 hf (fun r5 hf => ?_)
      refine rn_bipush 51 dX5_begins_49 rfl bp_10 ?_
      refine rn_iload_n 52 dX5_begins_51 rfl rfl ?_
      refine rn_iadd 53 dX5_begins_52 rfl ?_
      refine rn_aload_n 54 dX5_begins_53 rfl rfl ?_
      refine ro_gtR 57 dX5_begins_54 rfl f_X5_7 ft_5_0 hf (fun r6 hf => ?_)
      refine rn_bipush 59 dX5_begins_57 rfl bp_9 ?_
      refine rn_iload_n 60 dX5_begins_59 rfl rfl ?_
      refine rn_iadd 61 dX5_begins_60 rfl ?_
      refine ro_iaload 62 dX5_begins_61 rfl hf (fun v7 hf => ?_)
      refine ro_iastore 63 dX5_begins_62 rfl hf (fun h8 hf => ?_)
      refine rn_aload_n 64 dX5_begins_63 rfl rfl ?_
      refine ro_gtR 67 dX5_begins_64 rfl f_X5_16 ft_5_2 hf (fun r9 hf => ?_)
      refine rn_bipush 69 dX5_begins_67 rfl bp_18 ?_
      refine rn_iload_n 70 dX5_begins_69 rfl rfl ?_
      refine rn_iadd 71 dX5_begins_70 rfl ?_
      refine rn_iconst 72 dX5_begins_71 rfl ic_m1 ?_
      refine ro_iastore 73 dX5_begins_72 rfl hf (fun h10 hf => ?_)
      refine rn_iinc (lv' := [(0, .ref (ad G o0)), (1, .int (x1 + 1))]) 76 dX5_begins_73 rfl (Nat.le_of_ble_eq_true rfl) rfl (inc_1 _) rfl ?_
      refine rn_goto 23 dX5_begins_76 rfl ?_
      exact ih _ _ hf
theorem TL_X5_begins_81 {G : WG} {post : PO} {β : Type} {P : β → Prop} {o0 : Nat} {k : AH → Int32 → Option (β)} (hk : ∀ (h : AH) (x1 : Int32), OkA (k h x1) P → Rn G M_X5_begins (0, 0) 102 [(0, .ref (ad G o0)), (1, .int x1)] [] h post) : ∀ (n : Nat) (h : AH) (x1 : Int32), OkA (L_X5_begins_81 o0 k n h x1) P → Rn G M_X5_begins (0, 0) 81 [(0, .ref (ad G o0)), (1, .int x1)] [] h post := by
  intro n
  induction n with
  | zero => intro _ _ hf; exact absurd hf ok_none
  | succ n ih =>
    intro h x1 hf
    refine rn_iload_n 82 dX5_begins_81 rfl rfl ?_
    refine rn_iconst 83 dX5_begins_82 rfl ic_5 ?_
    refine ro_icmp_ge 102 86 dX5_begins_83 rfl rfl hf (fun hf => ?_) (fun hf => ?_)
    · exact hk _ _ hf
    · refine rn_aload_n 87 dX5_begins_86 rfl rfl ?_
      refine ro_gtR 90 dX5_begins_87 rfl f_X5_16 ft_5_2 hf (fun r1 hf => ?_)
      refine rn_bipush 92 dX5_begins_90 rfl bp_34 ?_
      refine rn_iload_n 93 dX5_begins_92 rfl rfl ?_
      refine rn_iadd 94 dX5_begins_93 rfl ?_
      refine rn_iconst 95 dX5_begins_94 rfl ic_m1 ?_
      refine ro_iastore 96 dX5_begins_95 rfl hf (fun h2 hf => ?_)
      refine rn_iinc (lv' := [(0, .ref (ad G o0)), (1, .int (x1 + 1))]) 99 dX5_begins_96 rfl (Nat.le_of_ble_eq_true rfl) rfl (inc_1 _) rfl ?_
      refine rn_goto 81 dX5_begins_99 rfl ?_
      exact ih _ _ hf
theorem T_X5_begins {G : WG} {post : PO} {h : AH} {o : Nat} (hf : OkA (F_X5_begins h o) (fun q => post none q)) : Rn G M_X5_begins (0, 0) 0 [(0, .ref (ad G o))] [] h post := by
  obtain ⟨_, hf⟩ := ok_ck2 hf
  refine rn_iconst 1 dX5_begins_0 rfl ic_0 ?_
  refine rn_istore_n (lv' := [(0, .ref (ad G o)), (1, .int 0)]) 2 dX5_begins_1 rfl (Nat.le_of_ble_eq_true rfl) rfl ?_
  refine TL_X5_begins_2 ?_ FU _ _ hf
  intro h3 y4 hf
  refine rn_iconst 22 dX5_begins_21 rfl ic_0 ?_
  refine rn_istore_n (lv' := [(0, .ref (ad G o)), (1, .int 0)]) 23 dX5_begins_22 rfl (Nat.le_of_ble_eq_true rfl) rfl ?_
  refine TL_X5_begins_23 ?_ FU _ _ hf
  intro h11 y12 hf
  refine rn_iconst 80 dX5_begins_79 rfl ic_0 ?_
  refine rn_istore_n (lv' := [(0, .ref (ad G o)), (1, .int 0)]) 81 dX5_begins_80 rfl (Nat.le_of_ble_eq_true rfl) rfl ?_
  refine TL_X5_begins_81 ?_ FU _ _ hf
  intro h13 y14 hf
  refine rn_aload_n 103 dX5_begins_102 rfl rfl ?_
  refine rn_iconst 104 dX5_begins_103 rfl ic_0 ?_
  refine ro_ptI 107 dX5_begins_104 rfl f_X5_54 pn_5_4 ft_5_4 rfl rfl hf (fun h15 hf => ?_)
  refine rn_aload_n 108 dX5_begins_107 rfl rfl ?_
  refine ro_gtR 111 dX5_begins_108 rfl f_X5_25 ft_5_6 hf (fun r16 hf => ?_)
  refine rn_iconst 112 dX5_begins_111 rfl ic_0 ?_
  refine rn_iconst 113 dX5_begins_112 rfl ic_0 ?_
  refine ro_bastore 114 dX5_begins_113 rfl hf (fun h17 hf => ?_)
  refine rn_aload_n 115 dX5_begins_114 rfl rfl ?_
  refine ro_gtR 118 dX5_begins_115 rfl f_X5_25 ft_5_6 hf (fun r18 hf => ?_)
  refine rn_iconst 119 dX5_begins_118 rfl ic_1 ?_
  refine rn_iconst 120 dX5_begins_119 rfl ic_0 ?_
  refine ro_bastore 121 dX5_begins_120 rfl hf (fun h19 hf => ?_)
  refine rn_aload_n 122 dX5_begins_121 rfl rfl ?_
  refine rn_iconst 123 dX5_begins_122 rfl ic_0 ?_
  refine ro_ptI 126 dX5_begins_123 rfl f_X5_58 pn_5_10 ft_5_10 rfl rfl hf (fun h20 hf => ?_)
  exact rn_vret dX5_begins_126 rfl (Or.inl rfl) (ok_some hf :)
theorem T_X5_init {G : WG} {post : PO} {h : AH} {o : Nat} (hf : OkA (F_X5_init h o) (fun q => post none q)) : Rn G M_X5_init (0, 0) 0 [(0, .ref (ad G o))] [] h post := by
  refine rn_aload_n 1 dX5_init_0 rfl rfl ?_
  refine rn_objInit 4 dX5_init_1 rfl l_X5_1 ⟨Nat.le_of_ble_eq_true rfl, Nat.le_of_ble_eq_true rfl⟩ ?_
  refine rn_aload_n 5 dX5_init_4 rfl rfl ?_
  refine rn_bipush 7 dX5_init_5 rfl bp_50 ?_
  refine ro_newa 9 10 (N := 50) dX5_init_7 rfl (Or.inl ⟨rfl, rfl⟩) (by decide) (by decide) (by decide) (Nat.le_of_ble_eq_true rfl) (Nat.le_of_ble_eq_true rfl) hf (fun h1 hf => ?_)
  refine ro_ptR 12 dX5_init_9 rfl f_X5_7 (Or.inr ⟨rfl, rfl, rfl⟩) ft_5_0 hf (fun h2 hf => ?_)
  refine rn_aload_n 13 dX5_init_12 rfl rfl ?_
  refine rn_bipush 15 dX5_init_13 rfl bp_50 ?_
  refine ro_newa 17 10 (N := 50) dX5_init_15 rfl (Or.inl ⟨rfl, rfl⟩) (by decide) (by decide) (by decide) (Nat.le_of_ble_eq_true rfl) (Nat.le_of_ble_eq_true rfl) hf (fun h3 hf => ?_)
  refine ro_ptR 20 dX5_init_17 rfl f_X5_13 (Or.inr ⟨rfl, rfl, rfl⟩) ft_5_1 hf (fun h4 hf => ?_)
  refine rn_aload_n 21 dX5_init_20 rfl rfl ?_
  refine rn_bipush 23 dX5_init_21 rfl bp_52 ?_
  refine ro_newa 25 10 (N := 52) dX5_init_23 rfl (Or.inl ⟨rfl, rfl⟩) (by decide) (by decide) (by decide) (Nat.le_of_ble_eq_true rfl) (Nat.le_of_ble_eq_true rfl) hf (fun h5 hf => ?_)
  refine ro_ptR 28 dX5_init_25 rfl f_X5_16 (Or.inr ⟨rfl, rfl, rfl⟩) ft_5_2 hf (fun h6 hf => ?_)
  refine rn_aload_n 29 dX5_init_28 rfl rfl ?_
  refine rn_sipush 32 dX5_init_29 rfl sp_416 ?_
  refine ro_newa 34 10 (N := 416) dX5_init_32 rfl (Or.inl ⟨rfl, rfl⟩) (by decide) (by decide) (by decide) (Nat.le_of_ble_eq_true rfl) (Nat.le_of_ble_eq_true rfl) hf (fun h7 hf => ?_)
  refine ro_ptR 37 dX5_init_34 rfl f_X5_19 (Or.inr ⟨rfl, rfl, rfl⟩) ft_5_3 hf (fun h8 hf => ?_)
  refine rn_aload_n 38 dX5_init_37 rfl rfl ?_
  refine rn_bipush 40 dX5_init_38 rfl bp_104 ?_
  refine ro_newa 42 10 (N := 104) dX5_init_40 rfl (Or.inl ⟨rfl, rfl⟩) (by decide) (by decide) (by decide) (Nat.le_of_ble_eq_true rfl) (Nat.le_of_ble_eq_true rfl) hf (fun h9 hf => ?_)
  refine ro_ptR 45 dX5_init_42 rfl f_X5_22 (Or.inr ⟨rfl, rfl, rfl⟩) ft_5_5 hf (fun h10 hf => ?_)
  refine rn_aload_n 46 dX5_init_45 rfl rfl ?_
  refine rn_iconst 47 dX5_init_46 rfl ic_2 ?_
  refine ro_newa 49 12 (N := 2) dX5_init_47 rfl (Or.inr (Or.inr ⟨rfl, rfl⟩)) (by decide) (by decide) (by decide) (Nat.le_of_ble_eq_true rfl) (Nat.le_of_ble_eq_true rfl) hf (fun h11 hf => ?_)
  refine ro_ptR 52 dX5_init_49 rfl f_X5_25 (Or.inr ⟨rfl, rfl, rfl⟩) ft_5_6 hf (fun h12 hf => ?_)
  refine rn_aload_n 53 dX5_init_52 rfl rfl ?_
  refine rn_sipush 56 dX5_init_53 rfl sp_160 ?_
  refine ro_newa 58 10 (N := 160) dX5_init_56 rfl (Or.inl ⟨rfl, rfl⟩) (by decide) (by decide) (by decide) (Nat.le_of_ble_eq_true rfl) (Nat.le_of_ble_eq_true rfl) hf (fun h13 hf => ?_)
  refine ro_ptR 61 dX5_init_58 rfl f_X5_29 (Or.inr ⟨rfl, rfl, rfl⟩) ft_5_7 hf (fun h14 hf => ?_)
  refine rn_aload_n 62 dX5_init_61 rfl rfl ?_
  refine rn_bipush 64 dX5_init_62 rfl bp_18 ?_
  refine ro_newa 66 10 (N := 18) dX5_init_64 rfl (Or.inl ⟨rfl, rfl⟩) (by decide) (by decide) (by decide) (Nat.le_of_ble_eq_true rfl) (Nat.le_of_ble_eq_true rfl) hf (fun h15 hf => ?_)
  refine ro_ptR 69 dX5_init_66 rfl f_X5_32 (Or.inr ⟨rfl, rfl, rfl⟩) ft_5_9 hf (fun h16 hf => ?_)
  refine rn_aload_n 70 dX5_init_69 rfl rfl ?_
  refine rn_iconst 71 dX5_init_70 rfl ic_5 ?_
  refine ro_newa 73 10 (N := 5) dX5_init_71 rfl (Or.inl ⟨rfl, rfl⟩) (by decide) (by decide) (by decide) (Nat.le_of_ble_eq_true rfl) (Nat.le_of_ble_eq_true rfl) hf (fun h17 hf => ?_)
  refine ro_ptR 76 dX5_init_73 rfl f_X5_35 (Or.inr ⟨rfl, rfl, rfl⟩) ft_5_17 hf (fun h18 hf => ?_)
  refine rn_aload_n 77 dX5_init_76 rfl rfl ?_
  refine rn_iconst 78 dX5_init_77 rfl ic_5 ?_
  refine ro_newa 80 10 (N := 5) dX5_init_78 rfl (Or.inl ⟨rfl, rfl⟩) (by decide) (by decide) (by decide) (Nat.le_of_ble_eq_true rfl) (Nat.le_of_ble_eq_true rfl) hf (fun h19 hf => ?_)
  refine ro_ptR 83 dX5_init_80 rfl f_X5_38 (Or.inr ⟨rfl, rfl, rfl⟩) ft_5_18 hf (fun h20 hf => ?_)
  refine rn_aload_n 84 dX5_init_83 rfl rfl ?_
  refine rn_iconst 85 dX5_init_84 rfl ic_5 ?_
  refine ro_newa 87 10 (N := 5) dX5_init_85 rfl (Or.inl ⟨rfl, rfl⟩) (by decide) (by decide) (by decide) (Nat.le_of_ble_eq_true rfl) (Nat.le_of_ble_eq_true rfl) hf (fun h21 hf => ?_)
  refine ro_ptR 90 dX5_init_87 rfl f_X5_41 (Or.inr ⟨rfl, rfl, rfl⟩) ft_5_19 hf (fun h22 hf => ?_)
  refine rn_aload_n 91 dX5_init_90 rfl rfl ?_
  refine rn_bipush 93 dX5_init_91 rfl bp_52 ?_
  refine ro_newa 95 10 (N := 52) dX5_init_93 rfl (Or.inl ⟨rfl, rfl⟩) (by decide) (by decide) (by decide) (Nat.le_of_ble_eq_true rfl) (Nat.le_of_ble_eq_true rfl) hf (fun h23 hf => ?_)
  refine ro_ptR 98 dX5_init_95 rfl f_X5_44 (Or.inr ⟨rfl, rfl, rfl⟩) ft_5_20 hf (fun h24 hf => ?_)
  refine rn_aload_n 99 dX5_init_98 rfl rfl ?_
  refine ro_gtR 102 dX5_init_99 rfl f_X5_7 ft_5_0 hf (fun r25 hf => ?_)
  refine ro_cSv (M' := M_X5_blank) (As := [.ref (ad G r25)]) (st := []) 105 (12, 919) dX5_init_102 rfl l_X5_47 v_X5_blank ⟨Nat.le_of_ble_eq_true rfl, Nat.le_of_ble_eq_true rfl⟩ rfl rfl (Nat.le_of_ble_eq_true rfl) (Nat.le_of_ble_eq_true rfl) ⟨rfl, Nat.le_of_ble_eq_true rfl, Nat.le_of_ble_eq_true rfl⟩ hf (fun X z => T_X5_blank z) (fun h26 hf => ?_)
  refine rn_aload_n 106 dX5_init_105 rfl rfl ?_
  refine ro_cVv (M' := M_X5_begins) (As := []) (o := o) (st := []) 109 (12, 919) dX5_init_106 rfl l_X5_51 v_X5_begins ⟨Nat.le_of_ble_eq_true rfl, Nat.le_of_ble_eq_true rfl⟩ rfl rfl (Nat.le_of_ble_eq_true rfl) (Nat.le_of_ble_eq_true rfl) ⟨rfl, Nat.le_of_ble_eq_true rfl, Nat.le_of_ble_eq_true rfl⟩ hf (fun X z => ok_ck z) rfl (fun X z => T_X5_begins z) (fun h27 hf => ?_)
  exact rn_vret dX5_init_109 rfl (Or.inl rfl) (ok_some hf :)
theorem T_X1_append {G : WG} {post : PO} {h : AH} {o : Nat} {x1 : Int32} (hf : OkA (F_X1_append h o x1) (fun q => post none q)) : Rn G M_X1_append (0, 0) 0 [(0, .ref (ad G o)), (1, .int x1)] [] h post := by
  obtain ⟨_, hf⟩ := ok_ck2 hf
  refine rn_aload_n 1 dX1_append_0 rfl rfl ?_
  refine ro_gtI 4 dX1_append_1 rfl f_X1_15 ft_1_1 hf (fun v1 hf => ?_)
  refine rn_sipush 7 dX1_append_4 rfl sp_160 ?_
  refine ro_icmp_lt 11 10 dX1_append_7 rfl rfl hf (fun hf => ?_) (fun hf => ?_)
  · refine rn_aload_n 12 dX1_append_11 rfl rfl ?_
    refine ro_gtR 15 dX1_append_12 rfl f_X1_9 ft_1_0 hf (fun r2 hf => ?_)
    refine rn_aload_n 16 dX1_append_15 rfl rfl ?_
    refine ro_gtI 19 dX1_append_16 rfl f_X1_15 ft_1_1 hf (fun v3 hf => ?_)
    refine rn_iload_n 20 dX1_append_19 rfl rfl ?_
    refine ro_castore 21 dX1_append_20 rfl hf (fun h4 hf => ?_)
    refine rn_aload_n 22 dX1_append_21 rfl rfl ?_
    refine rn_dup 23 dX1_append_22 rfl rfl ?_
    refine ro_gtI 26 dX1_append_23 rfl f_X1_15 ft_1_1 hf (fun v5 hf => ?_)
    refine rn_iconst 27 dX1_append_26 rfl ic_1 ?_
    refine rn_iadd 28 dX1_append_27 rfl ?_
    refine ro_ptI 31 dX1_append_28 rfl f_X1_15 pn_1_1 ft_1_1 rfl rfl hf (fun h6 hf => ?_)
    exact rn_vret dX1_append_31 rfl (Or.inl rfl) (ok_some hf :)
  · exact rn_vret dX1_append_10 rfl (Or.inl rfl) (ok_some hf :)
theorem T_X4_write {G : WG} {post : PO} {h : AH} {o : Nat} {x1 : Int32} (hf : OkA (F_X4_write h o x1) (fun q => post (some q.1) q.2)) : Rn G M_X4_write (0, 0) 0 [(0, .ref (ad G o)), (1, .int x1)] [] h post := by
  obtain ⟨_, hf⟩ := ok_ck2 hf
  refine rn_iload_n 1 dX4_write_0 rfl rfl ?_
  refine ro_if_lt 11 4 dX4_write_1 rfl rfl hf (fun hf => ?_) (fun hf => ?_)
  · refine rn_bipush 13 dX4_write_11 rfl bp_m3 ?_
    exact rn_iret .int dX4_write_13 rfl rfl (Or.inl rfl) (ok_some hf :)
  · refine rn_iload_n 5 dX4_write_4 rfl rfl ?_
    refine rn_sipush 8 dX4_write_5 rfl sp_255 ?_
    refine ro_icmp_le 14 11 dX4_write_8 rfl rfl hf (fun hf => ?_) (fun hf => ?_)
    · refine rn_aload_n 15 dX4_write_14 rfl rfl ?_
      refine ro_gtR 18 dX4_write_15 rfl f_X4_10 ft_4_0 hf (fun r1 hf => ?_)
      refine ro_gtI 21 dX4_write_18 rfl f_X4_58 ft_1_1 hf (fun v2 hf => ?_)
      refine rn_sipush 24 dX4_write_21 rfl sp_160 ?_
      refine ro_icmp_lt 30 27 dX4_write_24 rfl rfl hf (fun hf => ?_) (fun hf => ?_)
      · refine rn_aload_n 31 dX4_write_30 rfl rfl ?_
        refine ro_gtR 34 dX4_write_31 rfl f_X4_10 ft_4_0 hf (fun r3 hf => ?_)
        refine rn_iload_n 35 dX4_write_34 rfl rfl ?_
        refine rn_i2c 36 dX4_write_35 rfl ?_
        refine ro_cVv (M' := M_X1_append) (As := [.int (chI x1)]) (o := r3) (st := []) 39 (0, 0) dX4_write_36 rfl l_X4_62 v_X1_append ⟨Nat.le_of_ble_eq_true rfl, Nat.le_of_ble_eq_true rfl⟩ rfl rfl (Nat.le_of_ble_eq_true rfl) (Nat.le_of_ble_eq_true rfl) ⟨rfl, Nat.le_of_ble_eq_true rfl, Nat.le_of_ble_eq_true rfl⟩ hf (fun X z => ok_ck z) rfl (fun X z => T_X1_append z) (fun h4 hf => ?_)
        refine rn_aload_n 40 dX4_write_39 rfl rfl ?_
        refine ro_gtR 43 dX4_write_40 rfl f_X4_10 ft_4_0 hf (fun r5 hf => ?_)
        refine ro_gtI 46 dX4_write_43 rfl f_X4_58 ft_1_1 hf (fun v6 hf => ?_)
        exact rn_iret .int dX4_write_46 rfl rfl (Or.inl rfl) (ok_some hf :)
      · refine rn_bipush 29 dX4_write_27 rfl bp_m5 ?_
        exact rn_iret .int dX4_write_29 rfl rfl (Or.inl rfl) (ok_some hf :)
    · refine rn_bipush 13 dX4_write_11 rfl bp_m3 ?_
      exact rn_iret .int dX4_write_13 rfl rfl (Or.inl rfl) (ok_some hf :)
theorem T_X5_in {G : WG} {post : PO} {h : AH} {x0 : Int64} {x2 : Int64} {x4 : Int64} (hf : OkA (F_X5_in h x0 x2 x4) (fun q => post (some q) h)) : Rn G M_X5_in (0, 0) 0 [(0, .long x0), (2, .long x2), (4, .long x4)] [] h post := by
  refine rn_lload_n 1 dX5_in_0 rfl rfl ?_
  refine rn_lload_n 2 dX5_in_1 rfl rfl ?_
  refine rn_lcmp 3 dX5_in_2 rfl ?_
  refine ro_if_lt 17 6 dX5_in_3 rfl rfl hf (fun hf => ?_) (fun hf => ?_)
  · refine rn_iconst 18 dX5_in_17 rfl ic_0 ?_
    exact rn_iret .boolean dX5_in_18 rfl rfl (Or.inl rfl) (ok_some hf :)
  · refine rn_lload_n 7 dX5_in_6 rfl rfl ?_
    refine rn_lload 9 dX5_in_7 rfl rfl ?_
    refine rn_lcmp 10 dX5_in_9 rfl ?_
    refine ro_if_gt 17 13 dX5_in_10 rfl rfl hf (fun hf => ?_) (fun hf => ?_)
    · refine rn_iconst 18 dX5_in_17 rfl ic_0 ?_
      exact rn_iret .boolean dX5_in_18 rfl rfl (Or.inl rfl) (ok_some hf :)
    · refine rn_iconst 14 dX5_in_13 rfl ic_1 ?_
      refine rn_goto 18 dX5_in_14 rfl ?_
      exact rn_iret .boolean dX5_in_18 rfl rfl (Or.inl rfl) (ok_some hf :)
theorem T_X5_write {G : WG} {post : PO} {h : AH} {o : Nat} {x1 : Int32} (hf : OkA (F_X5_write h o x1) (fun q => post (some q.1) q.2)) : Rn G M_X5_write (0, 0) 0 [(0, .ref (ad G o)), (1, .int x1)] [] h post := by
  obtain ⟨_, hf⟩ := ok_ck2 hf
  refine rn_iload_n 1 dX5_write_0 rfl rfl ?_
  refine rn_i2l 2 dX5_write_1 rfl ?_
  refine rn_lconst 3 dX5_write_2 rfl lc_0 ?_
  refine rn_ldc2 6 dX5_write_3 rfl k_X5_61 ?_
  refine ro_cSp (M' := M_X5_in) (As := [.long x1.toInt64, .long 0, .long 255]) (st := []) 9 (0, 0) dX5_write_6 rfl l_X5_63 v_X5_in ⟨Nat.le_of_ble_eq_true rfl, Nat.le_of_ble_eq_true rfl⟩ rfl rfl (Nat.le_of_ble_eq_true rfl) (Nat.le_of_ble_eq_true rfl) ⟨rfl, Nat.le_of_ble_eq_true rfl, Nat.le_of_ble_eq_true rfl⟩ hf (fun X z => T_X5_in z) (fun v1 hf => ?_)
  refine ro_if_ne 15 12 dX5_write_9 rfl rfl hf (fun hf => ?_) (fun hf => ?_)
  · refine rn_aload_n 16 dX5_write_15 rfl rfl ?_
    refine ro_gtI 19 dX5_write_16 rfl f_X5_67 ft_5_8 hf (fun v2 hf => ?_)
    refine rn_sipush 22 dX5_write_19 rfl sp_160 ?_
    refine ro_icmp_ne 28 25 dX5_write_22 rfl rfl hf (fun hf => ?_) (fun hf => ?_)
    · refine rn_aload_n 29 dX5_write_28 rfl rfl ?_
      refine ro_gtR 32 dX5_write_29 rfl f_X5_29 ft_5_7 hf (fun r3 hf => ?_)
      refine rn_aload_n 33 dX5_write_32 rfl rfl ?_
      refine ro_gtI 36 dX5_write_33 rfl f_X5_67 ft_5_8 hf (fun v4 hf => ?_)
      refine rn_iload_n 37 dX5_write_36 rfl rfl ?_
      refine ro_iastore 38 dX5_write_37 rfl hf (fun h5 hf => ?_)
      refine rn_aload_n 39 dX5_write_38 rfl rfl ?_
      refine rn_dup 40 dX5_write_39 rfl rfl ?_
      refine ro_gtI 43 dX5_write_40 rfl f_X5_67 ft_5_8 hf (fun v6 hf => ?_)
      refine rn_iconst 44 dX5_write_43 rfl ic_1 ?_
      refine rn_iadd 45 dX5_write_44 rfl ?_
      refine ro_ptI 48 dX5_write_45 rfl f_X5_67 pn_5_8 ft_5_8 rfl rfl hf (fun h7 hf => ?_)
      refine rn_aload_n 49 dX5_write_48 rfl rfl ?_
      refine ro_gtI 52 dX5_write_49 rfl f_X5_67 ft_5_8 hf (fun v8 hf => ?_)
      exact rn_iret .int dX5_write_52 rfl rfl (Or.inl rfl) (ok_some hf :)
    · refine rn_bipush 27 dX5_write_25 rfl bp_m5 ?_
      exact rn_iret .int dX5_write_27 rfl rfl (Or.inl rfl) (ok_some hf :)
  · refine rn_bipush 14 dX5_write_12 rfl bp_m3 ?_
    exact rn_iret .int dX5_write_14 rfl rfl (Or.inl rfl) (ok_some hf :)
theorem T_X4_erase {G : WG} {post : PO} {h : AH} {o : Nat} (hf : OkA (F_X4_erase h o) (fun q => post (some q.1) q.2)) : Rn G M_X4_erase (0, 0) 0 [(0, .ref (ad G o))] [] h post := by
  obtain ⟨_, hf⟩ := ok_ck2 hf
  refine rn_aload_n 1 dX4_erase_0 rfl rfl ?_
  refine ro_gtR 4 dX4_erase_1 rfl f_X4_10 ft_4_0 hf (fun r1 hf => ?_)
  refine ro_gtI 7 dX4_erase_4 rfl f_X4_58 ft_1_1 hf (fun v2 hf => ?_)
  refine rn_istore_n (lv' := [(0, .ref (ad G o)), (1, .int v2)]) 8 dX4_erase_7 rfl (Nat.le_of_ble_eq_true rfl) rfl ?_
  refine rn_aload_n 9 dX4_erase_8 rfl rfl ?_
  refine ro_gtR 12 dX4_erase_9 rfl f_X4_10 ft_4_0 hf (fun r3 hf => ?_)
  refine rn_iconst 13 dX4_erase_12 rfl ic_0 ?_
  refine ro_ptI 16 dX4_erase_13 rfl f_X4_58 pn_1_1 ft_1_1 rfl rfl hf (fun h4 hf => ?_)
  refine rn_iload_n 17 dX4_erase_16 rfl rfl ?_
  exact rn_iret .int dX4_erase_17 rfl rfl (Or.inl rfl) (ok_some hf :)
theorem T_X5_erase {G : WG} {post : PO} {h : AH} {o : Nat} (hf : OkA (F_X5_erase h o) (fun q => post (some q.1) q.2)) : Rn G M_X5_erase (0, 0) 0 [(0, .ref (ad G o))] [] h post := by
  obtain ⟨_, hf⟩ := ok_ck2 hf
  refine rn_aload_n 1 dX5_erase_0 rfl rfl ?_
  refine ro_gtI 4 dX5_erase_1 rfl f_X5_67 ft_5_8 hf (fun v1 hf => ?_)
  refine rn_istore_n (lv' := [(0, .ref (ad G o)), (1, .int v1)]) 5 dX5_erase_4 rfl (Nat.le_of_ble_eq_true rfl) rfl ?_
  refine rn_aload_n 6 dX5_erase_5 rfl rfl ?_
  refine rn_iconst 7 dX5_erase_6 rfl ic_0 ?_
  refine ro_ptI 10 dX5_erase_7 rfl f_X5_67 pn_5_8 ft_5_8 rfl rfl hf (fun h2 hf => ?_)
  refine rn_iload_n 11 dX5_erase_10 rfl rfl ?_
  exact rn_iret .int dX5_erase_11 rfl rfl (Or.inl rfl) (ok_some hf :)
theorem T_X2_copyFrom {G : WG} {post : PO} {h : AH} {o : Nat} {o1 : Nat} (hf : OkA (F_X2_copyFrom h o o1) (fun q => post none q)) : Rn G M_X2_copyFrom (0, 0) 0 [(0, .ref (ad G o)), (1, .ref (ad G o1))] [] h post := by
  obtain ⟨_, hf⟩ := ok_ck2 hf
  refine rn_aload_n 1 dX2_copyFrom_0 rfl rfl ?_
  refine rn_aload_n 2 dX2_copyFrom_1 rfl rfl ?_
  refine ro_gtI 5 dX2_copyFrom_2 rfl f_X2_36 ft_2_0 hf (fun v1 hf => ?_)
  refine ro_ptI 8 dX2_copyFrom_5 rfl f_X2_36 pn_2_0 ft_2_0 rfl rfl hf (fun h2 hf => ?_)
  refine rn_aload_n 9 dX2_copyFrom_8 rfl rfl ?_
  refine rn_aload_n 10 dX2_copyFrom_9 rfl rfl ?_
  refine ro_gtI 13 dX2_copyFrom_10 rfl f_X2_40 ft_2_1 hf (fun v3 hf => ?_)
  refine ro_ptI 16 dX2_copyFrom_13 rfl f_X2_40 pn_2_1 ft_2_1 rfl rfl hf (fun h4 hf => ?_)
  refine rn_aload_n 17 dX2_copyFrom_16 rfl rfl ?_
  refine ro_gtR 20 dX2_copyFrom_17 rfl f_X2_9 ft_2_2 hf (fun r5 hf => ?_)
  refine rn_iconst 21 dX2_copyFrom_20 rfl ic_0 ?_
  refine rn_aload_n 22 dX2_copyFrom_21 rfl rfl ?_
  refine ro_gtR 25 dX2_copyFrom_22 rfl f_X2_9 ft_2_2 hf (fun r6 hf => ?_)
  refine rn_iconst 26 dX2_copyFrom_25 rfl ic_0 ?_
  refine rn_bipush 28 dX2_copyFrom_26 rfl bp_8 ?_
  refine ro_copy 31 dX2_copyFrom_28 rfl l_X2_52 ⟨Nat.le_of_ble_eq_true rfl, Nat.le_of_ble_eq_true rfl⟩ hf (fun h7 hf => ?_)
  refine rn_aload_n 32 dX2_copyFrom_31 rfl rfl ?_
  refine ro_gtR 35 dX2_copyFrom_32 rfl f_X2_15 ft_2_3 hf (fun r8 hf => ?_)
  refine rn_iconst 36 dX2_copyFrom_35 rfl ic_0 ?_
  refine rn_aload_n 37 dX2_copyFrom_36 rfl rfl ?_
  refine ro_gtR 40 dX2_copyFrom_37 rfl f_X2_15 ft_2_3 hf (fun r9 hf => ?_)
  refine rn_iconst 41 dX2_copyFrom_40 rfl ic_0 ?_
  refine rn_bipush 43 dX2_copyFrom_41 rfl bp_8 ?_
  refine ro_copy 46 dX2_copyFrom_43 rfl l_X2_52 ⟨Nat.le_of_ble_eq_true rfl, Nat.le_of_ble_eq_true rfl⟩ hf (fun h10 hf => ?_)
  refine rn_aload_n 47 dX2_copyFrom_46 rfl rfl ?_
  refine ro_gtR 50 dX2_copyFrom_47 rfl f_X2_18 ft_2_4 hf (fun r11 hf => ?_)
  refine rn_iconst 51 dX2_copyFrom_50 rfl ic_0 ?_
  refine rn_aload_n 52 dX2_copyFrom_51 rfl rfl ?_
  refine ro_gtR 55 dX2_copyFrom_52 rfl f_X2_18 ft_2_4 hf (fun r12 hf => ?_)
  refine rn_iconst 56 dX2_copyFrom_55 rfl ic_0 ?_
  refine rn_bipush 58 dX2_copyFrom_56 rfl bp_8 ?_
  refine ro_copy 61 dX2_copyFrom_58 rfl l_X2_52 ⟨Nat.le_of_ble_eq_true rfl, Nat.le_of_ble_eq_true rfl⟩ hf (fun h13 hf => ?_)
  refine rn_aload_n 62 dX2_copyFrom_61 rfl rfl ?_
  refine ro_gtR 65 dX2_copyFrom_62 rfl f_X2_21 ft_2_5 hf (fun r14 hf => ?_)
  refine rn_iconst 66 dX2_copyFrom_65 rfl ic_0 ?_
  refine rn_aload_n 67 dX2_copyFrom_66 rfl rfl ?_
  refine ro_gtR 70 dX2_copyFrom_67 rfl f_X2_21 ft_2_5 hf (fun r15 hf => ?_)
  refine rn_iconst 71 dX2_copyFrom_70 rfl ic_0 ?_
  refine rn_iconst 72 dX2_copyFrom_71 rfl ic_5 ?_
  refine ro_copy 75 dX2_copyFrom_72 rfl l_X2_52 ⟨Nat.le_of_ble_eq_true rfl, Nat.le_of_ble_eq_true rfl⟩ hf (fun h16 hf => ?_)
  refine rn_aload_n 76 dX2_copyFrom_75 rfl rfl ?_
  refine ro_gtR 79 dX2_copyFrom_76 rfl f_X2_24 ft_2_6 hf (fun r17 hf => ?_)
  refine rn_iconst 80 dX2_copyFrom_79 rfl ic_0 ?_
  refine rn_aload_n 81 dX2_copyFrom_80 rfl rfl ?_
  refine ro_gtR 84 dX2_copyFrom_81 rfl f_X2_24 ft_2_6 hf (fun r18 hf => ?_)
  refine rn_iconst 85 dX2_copyFrom_84 rfl ic_0 ?_
  refine rn_iconst 86 dX2_copyFrom_85 rfl ic_5 ?_
  refine ro_copy 89 dX2_copyFrom_86 rfl l_X2_52 ⟨Nat.le_of_ble_eq_true rfl, Nat.le_of_ble_eq_true rfl⟩ hf (fun h19 hf => ?_)
  refine rn_aload_n 90 dX2_copyFrom_89 rfl rfl ?_
  refine ro_gtR 93 dX2_copyFrom_90 rfl f_X2_27 ft_2_7 hf (fun r20 hf => ?_)
  refine rn_iconst 94 dX2_copyFrom_93 rfl ic_0 ?_
  refine rn_aload_n 95 dX2_copyFrom_94 rfl rfl ?_
  refine ro_gtR 98 dX2_copyFrom_95 rfl f_X2_27 ft_2_7 hf (fun r21 hf => ?_)
  refine rn_iconst 99 dX2_copyFrom_98 rfl ic_0 ?_
  refine rn_bipush 101 dX2_copyFrom_99 rfl bp_14 ?_
  refine ro_copy 104 dX2_copyFrom_101 rfl l_X2_52 ⟨Nat.le_of_ble_eq_true rfl, Nat.le_of_ble_eq_true rfl⟩ hf (fun h22 hf => ?_)
  exact rn_vret dX2_copyFrom_104 rfl (Or.inl rfl) (ok_some hf :)
theorem T_X1_isSmall {G : WG} {post : PO} {h : AH} {x0 : Int32} (hf : OkA (F_X1_isSmall h x0) (fun q => post (some q) h)) : Rn G M_X1_isSmall (0, 0) 0 [(0, .int x0)] [] h post := by
  refine rn_iload_n 1 dX1_isSmall_0 rfl rfl ?_
  refine rn_bipush 3 dX1_isSmall_1 rfl bp_97 ?_
  refine ro_icmp_lt 16 6 dX1_isSmall_3 rfl rfl hf (fun hf => ?_) (fun hf => ?_)
  · refine rn_iconst 17 dX1_isSmall_16 rfl ic_0 ?_
    exact rn_iret .boolean dX1_isSmall_17 rfl rfl (Or.inl rfl) (ok_some hf :)
  · refine rn_iload_n 7 dX1_isSmall_6 rfl rfl ?_
    refine rn_bipush 9 dX1_isSmall_7 rfl bp_122 ?_
    refine ro_icmp_gt 16 12 dX1_isSmall_9 rfl rfl hf (fun hf => ?_) (fun hf => ?_)
    · refine rn_iconst 17 dX1_isSmall_16 rfl ic_0 ?_
      exact rn_iret .boolean dX1_isSmall_17 rfl rfl (Or.inl rfl) (ok_some hf :)
    · refine rn_iconst 13 dX1_isSmall_12 rfl ic_1 ?_
      refine rn_goto 17 dX1_isSmall_13 rfl ?_
      exact rn_iret .boolean dX1_isSmall_17 rfl rfl (Or.inl rfl) (ok_some hf :)
theorem T_X1_isDigit {G : WG} {post : PO} {h : AH} {x0 : Int32} (hf : OkA (F_X1_isDigit h x0) (fun q => post (some q) h)) : Rn G M_X1_isDigit (0, 0) 0 [(0, .int x0)] [] h post := by
  refine rn_iload_n 1 dX1_isDigit_0 rfl rfl ?_
  refine rn_bipush 3 dX1_isDigit_1 rfl bp_48 ?_
  refine ro_icmp_lt 16 6 dX1_isDigit_3 rfl rfl hf (fun hf => ?_) (fun hf => ?_)
  · refine rn_iconst 17 dX1_isDigit_16 rfl ic_0 ?_
    exact rn_iret .boolean dX1_isDigit_17 rfl rfl (Or.inl rfl) (ok_some hf :)
  · refine rn_iload_n 7 dX1_isDigit_6 rfl rfl ?_
    refine rn_bipush 9 dX1_isDigit_7 rfl bp_57 ?_
    refine ro_icmp_gt 16 12 dX1_isDigit_9 rfl rfl hf (fun hf => ?_) (fun hf => ?_)
    · refine rn_iconst 17 dX1_isDigit_16 rfl ic_0 ?_
      exact rn_iret .boolean dX1_isDigit_17 rfl rfl (Or.inl rfl) (ok_some hf :)
    · refine rn_iconst 13 dX1_isDigit_12 rfl ic_1 ?_
      refine rn_goto 17 dX1_isDigit_13 rfl ?_
      exact rn_iret .boolean dX1_isDigit_17 rfl rfl (Or.inl rfl) (ok_some hf :)
theorem TL_X1_nextToken_8 {G : WG} {post : PO} {β : Type} {P : β → Prop} {o0 : Nat} {k : AH → Option (β)} (hk : ∀ (h : AH), OkA (k h) P → Rn G M_X1_nextToken (0, 0) 46 [(0, .ref (ad G o0))] [] h post) : ∀ (n : Nat) (h : AH), OkA (L_X1_nextToken_8 o0 k n h) P → Rn G M_X1_nextToken (0, 0) 8 [(0, .ref (ad G o0))] [] h post := by
  intro n
  induction n with
  | zero => intro _ hf; exact absurd hf ok_none
  | succ n ih =>
    intro h hf
    refine rn_aload_n 9 dX1_nextToken_8 rfl rfl ?_
    refine ro_gtI 12 dX1_nextToken_9 rfl f_X1_29 ft_1_3 hf (fun v1 hf => ?_)
    refine rn_aload_n 13 dX1_nextToken_12 rfl rfl ?_
    refine ro_gtI 16 dX1_nextToken_13 rfl f_X1_15 ft_1_1 hf (fun v2 hf => ?_)
    refine ro_icmp_ge 46 19 dX1_nextToken_16 rfl rfl hf (fun hf => ?_) (fun hf => ?_)
    · exact hk _ hf
    · refine rn_aload_n 20 dX1_nextToken_19 rfl rfl ?_
      refine ro_gtR 23 dX1_nextToken_20 rfl f_X1_9 ft_1_0 hf (fun r3 hf => ?_)
      refine rn_aload_n 24 dX1_nextToken_23 rfl rfl ?_
      refine ro_gtI 27 dX1_nextToken_24 rfl f_X1_29 ft_1_3 hf (fun v4 hf => ?_)
      refine ro_caload 28 dX1_nextToken_27 rfl hf (fun v5 hf => ?_)
      refine rn_bipush 30 dX1_nextToken_28 rfl bp_32 ?_
      refine ro_icmp_ne 46 33 dX1_nextToken_30 rfl rfl hf (fun hf => ?_) (fun hf => ?_)
      · exact hk _ hf
      · refine rn_aload_n 34 dX1_nextToken_33 rfl rfl ?_
        refine rn_dup 35 dX1_nextToken_34 rfl rfl ?_
        refine ro_gtI 38 dX1_nextToken_35 rfl f_X1_29 ft_1_3 hf (fun v6 hf => ?_)
        refine rn_iconst 39 dX1_nextToken_38 rfl ic_1 ?_
        refine rn_iadd 40 dX1_nextToken_39 rfl ?_
        refine ro_ptI 43 dX1_nextToken_40 rfl f_X1_29 pn_1_3 ft_1_3 rfl rfl hf (fun h7 hf => ?_)
        refine rn_goto 8 dX1_nextToken_43 rfl ?_
        exact ih _ hf
theorem TL_X1_nextToken_145 {G : WG} {post : PO} {β : Type} {P : β → Prop} {o0 : Nat} {k : AH → Option (β)} (hk : ∀ (h : AH), OkA (k h) P → Rn G M_X1_nextToken (0, 0) 184 [(0, .ref (ad G o0))] [] h post) : ∀ (n : Nat) (h : AH), OkA (L_X1_nextToken_145 o0 k n h) P → Rn G M_X1_nextToken (0, 0) 145 [(0, .ref (ad G o0))] [] h post := by
  intro n
  induction n with
  | zero => intro _ hf; exact absurd hf ok_none
  | succ n ih =>
    intro h hf
    refine rn_aload_n 146 dX1_nextToken_145 rfl rfl ?_
    refine ro_gtI 149 dX1_nextToken_146 rfl f_X1_22 ft_1_4 hf (fun v1 hf => ?_)
    refine rn_aload_n 150 dX1_nextToken_149 rfl rfl ?_
    refine ro_gtI 153 dX1_nextToken_150 rfl f_X1_15 ft_1_1 hf (fun v2 hf => ?_)
    refine ro_icmp_ge 184 156 dX1_nextToken_153 rfl rfl hf (fun hf => ?_) (fun hf => ?_)
    · exact hk _ hf
    · refine rn_aload_n 157 dX1_nextToken_156 rfl rfl ?_
      refine ro_gtR 160 dX1_nextToken_157 rfl f_X1_9 ft_1_0 hf (fun r3 hf => ?_)
      refine rn_aload_n 161 dX1_nextToken_160 rfl rfl ?_
      refine ro_gtI 164 dX1_nextToken_161 rfl f_X1_22 ft_1_4 hf (fun v4 hf => ?_)
      refine ro_caload 165 dX1_nextToken_164 rfl hf (fun v5 hf => ?_)
      refine ro_cSp (M' := M_X1_isDigit) (As := [.int v5]) (st := []) 168 (0, 0) dX1_nextToken_165 rfl l_X1_106 v_X1_isDigit ⟨Nat.le_of_ble_eq_true rfl, Nat.le_of_ble_eq_true rfl⟩ rfl rfl (Nat.le_of_ble_eq_true rfl) (Nat.le_of_ble_eq_true rfl) ⟨rfl, Nat.le_of_ble_eq_true rfl, Nat.le_of_ble_eq_true rfl⟩ hf (fun X z => T_X1_isDigit z) (fun v6 hf => ?_)
      refine ro_if_eq 184 171 dX1_nextToken_168 rfl rfl hf (fun hf => ?_) (fun hf => ?_)
      · exact hk _ hf
      · refine rn_aload_n 172 dX1_nextToken_171 rfl rfl ?_
        refine rn_dup 173 dX1_nextToken_172 rfl rfl ?_
        refine ro_gtI 176 dX1_nextToken_173 rfl f_X1_22 ft_1_4 hf (fun v7 hf => ?_)
        refine rn_iconst 177 dX1_nextToken_176 rfl ic_1 ?_
        refine rn_iadd 178 dX1_nextToken_177 rfl ?_
        refine ro_ptI 181 dX1_nextToken_178 rfl f_X1_22 pn_1_4 ft_1_4 rfl rfl hf (fun h8 hf => ?_)
        refine rn_goto 145 dX1_nextToken_181 rfl ?_
        exact ih _ hf
theorem TL_X1_nextToken_91 {G : WG} {post : PO} {β : Type} {P : β → Prop} {o0 : Nat} {k : AH → Option (β)} (hk : ∀ (h : AH), OkA (k h) P → Rn G M_X1_nextToken (0, 0) 184 [(0, .ref (ad G o0))] [] h post) : ∀ (n : Nat) (h : AH), OkA (L_X1_nextToken_91 o0 k n h) P → Rn G M_X1_nextToken (0, 0) 91 [(0, .ref (ad G o0))] [] h post := by
  intro n
  induction n with
  | zero => intro _ hf; exact absurd hf ok_none
  | succ n ih =>
    intro h hf
    refine rn_aload_n 92 dX1_nextToken_91 rfl rfl ?_
    refine ro_gtI 95 dX1_nextToken_92 rfl f_X1_22 ft_1_4 hf (fun v1 hf => ?_)
    refine rn_aload_n 96 dX1_nextToken_95 rfl rfl ?_
    refine ro_gtI 99 dX1_nextToken_96 rfl f_X1_15 ft_1_1 hf (fun v2 hf => ?_)
    refine ro_icmp_ge 184 102 dX1_nextToken_99 rfl rfl hf (fun hf => ?_) (fun hf => ?_)
    · exact hk _ hf
    · refine rn_aload_n 103 dX1_nextToken_102 rfl rfl ?_
      refine ro_gtR 106 dX1_nextToken_103 rfl f_X1_9 ft_1_0 hf (fun r3 hf => ?_)
      refine rn_aload_n 107 dX1_nextToken_106 rfl rfl ?_
      refine ro_gtI 110 dX1_nextToken_107 rfl f_X1_22 ft_1_4 hf (fun v4 hf => ?_)
      refine ro_caload 111 dX1_nextToken_110 rfl hf (fun v5 hf => ?_)
      refine ro_cSp (M' := M_X1_isSmall) (As := [.int v5]) (st := []) 114 (0, 0) dX1_nextToken_111 rfl l_X1_110 v_X1_isSmall ⟨Nat.le_of_ble_eq_true rfl, Nat.le_of_ble_eq_true rfl⟩ rfl rfl (Nat.le_of_ble_eq_true rfl) (Nat.le_of_ble_eq_true rfl) ⟨rfl, Nat.le_of_ble_eq_true rfl, Nat.le_of_ble_eq_true rfl⟩ hf (fun X z => T_X1_isSmall z) (fun v6 hf => ?_)
      refine ro_if_eq 184 117 dX1_nextToken_114 rfl rfl hf (fun hf => ?_) (fun hf => ?_)
      · exact hk _ hf
      · refine rn_aload_n 118 dX1_nextToken_117 rfl rfl ?_
        refine rn_dup 119 dX1_nextToken_118 rfl rfl ?_
        refine ro_gtI 122 dX1_nextToken_119 rfl f_X1_22 ft_1_4 hf (fun v7 hf => ?_)
        refine rn_iconst 123 dX1_nextToken_122 rfl ic_1 ?_
        refine rn_iadd 124 dX1_nextToken_123 rfl ?_
        refine ro_ptI 127 dX1_nextToken_124 rfl f_X1_22 pn_1_4 ft_1_4 rfl rfl hf (fun h8 hf => ?_)
        refine rn_goto 91 dX1_nextToken_127 rfl ?_
        exact ih _ hf
theorem T_X1_nextToken {G : WG} {post : PO} {h : AH} {o : Nat} (hf : OkA (F_X1_nextToken h o) (fun q => post none q)) : Rn G M_X1_nextToken (0, 0) 0 [(0, .ref (ad G o))] [] h post := by
  obtain ⟨_, hf⟩ := ok_ck2 hf
  refine rn_aload_n 1 dX1_nextToken_0 rfl rfl ?_
  refine rn_aload_n 2 dX1_nextToken_1 rfl rfl ?_
  refine ro_gtI 5 dX1_nextToken_2 rfl f_X1_22 ft_1_4 hf (fun v1 hf => ?_)
  refine ro_ptI 8 dX1_nextToken_5 rfl f_X1_29 pn_1_3 ft_1_3 rfl rfl hf (fun h2 hf => ?_)
  refine TL_X1_nextToken_8 ?_ FU _ hf
  intro h8 hf
  refine rn_aload_n 47 dX1_nextToken_46 rfl rfl ?_
  refine rn_aload_n 48 dX1_nextToken_47 rfl rfl ?_
  refine ro_gtI 51 dX1_nextToken_48 rfl f_X1_29 ft_1_3 hf (fun v9 hf => ?_)
  refine ro_ptI 54 dX1_nextToken_51 rfl f_X1_22 pn_1_4 ft_1_4 rfl rfl hf (fun h10 hf => ?_)
  refine rn_aload_n 55 dX1_nextToken_54 rfl rfl ?_
  refine ro_gtI 58 dX1_nextToken_55 rfl f_X1_29 ft_1_3 hf (fun v11 hf => ?_)
  refine rn_aload_n 59 dX1_nextToken_58 rfl rfl ?_
  refine ro_gtI 62 dX1_nextToken_59 rfl f_X1_15 ft_1_1 hf (fun v12 hf => ?_)
  refine ro_icmp_lt 66 65 dX1_nextToken_62 rfl rfl hf (fun hf => ?_) (fun hf => ?_)
  · refine rn_aload_n 67 dX1_nextToken_66 rfl rfl ?_
    refine rn_dup 68 dX1_nextToken_67 rfl rfl ?_
    refine ro_gtI 71 dX1_nextToken_68 rfl f_X1_22 ft_1_4 hf (fun v13 hf => ?_)
    refine rn_iconst 72 dX1_nextToken_71 rfl ic_1 ?_
    refine rn_iadd 73 dX1_nextToken_72 rfl ?_
    refine ro_ptI 76 dX1_nextToken_73 rfl f_X1_22 pn_1_4 ft_1_4 rfl rfl hf (fun h14 hf => ?_)
    refine rn_aload_n 77 dX1_nextToken_76 rfl rfl ?_
    refine ro_gtR 80 dX1_nextToken_77 rfl f_X1_9 ft_1_0 hf (fun r15 hf => ?_)
    refine rn_aload_n 81 dX1_nextToken_80 rfl rfl ?_
    refine ro_gtI 84 dX1_nextToken_81 rfl f_X1_29 ft_1_3 hf (fun v16 hf => ?_)
    refine ro_caload 85 dX1_nextToken_84 rfl hf (fun v17 hf => ?_)
    refine ro_cSp (M' := M_X1_isSmall) (As := [.int v17]) (st := []) 88 (0, 0) dX1_nextToken_85 rfl l_X1_110 v_X1_isSmall ⟨Nat.le_of_ble_eq_true rfl, Nat.le_of_ble_eq_true rfl⟩ rfl rfl (Nat.le_of_ble_eq_true rfl) (Nat.le_of_ble_eq_true rfl) ⟨rfl, Nat.le_of_ble_eq_true rfl, Nat.le_of_ble_eq_true rfl⟩ hf (fun X z => T_X1_isSmall z) (fun v18 hf => ?_)
    refine ro_if_eq 130 91 dX1_nextToken_88 rfl rfl hf (fun hf => ?_) (fun hf => ?_)
    · refine rn_aload_n 131 dX1_nextToken_130 rfl rfl ?_
      refine ro_gtR 134 dX1_nextToken_131 rfl f_X1_9 ft_1_0 hf (fun r19 hf => ?_)
      refine rn_aload_n 135 dX1_nextToken_134 rfl rfl ?_
      refine ro_gtI 138 dX1_nextToken_135 rfl f_X1_29 ft_1_3 hf (fun v20 hf => ?_)
      refine ro_caload 139 dX1_nextToken_138 rfl hf (fun v21 hf => ?_)
      refine ro_cSp (M' := M_X1_isDigit) (As := [.int v21]) (st := []) 142 (0, 0) dX1_nextToken_139 rfl l_X1_106 v_X1_isDigit ⟨Nat.le_of_ble_eq_true rfl, Nat.le_of_ble_eq_true rfl⟩ rfl rfl (Nat.le_of_ble_eq_true rfl) (Nat.le_of_ble_eq_true rfl) ⟨rfl, Nat.le_of_ble_eq_true rfl, Nat.le_of_ble_eq_true rfl⟩ hf (fun X z => T_X1_isDigit z) (fun v22 hf => ?_)
      refine ro_if_eq 184 145 dX1_nextToken_142 rfl rfl hf (fun hf => ?_) (fun hf => ?_)
      · exact rn_vret dX1_nextToken_184 rfl (Or.inl rfl) (ok_some hf :)
      · refine TL_X1_nextToken_145 ?_ FU _ hf
        intro h23 hf
        exact rn_vret dX1_nextToken_184 rfl (Or.inl rfl) (ok_some hf :)
    · refine TL_X1_nextToken_91 ?_ FU _ hf
      intro h24 hf
      exact rn_vret dX1_nextToken_184 rfl (Or.inl rfl) (ok_some hf :)
  · exact rn_vret dX1_nextToken_65 rfl (Or.inl rfl) (ok_some hf :)
theorem TL_X1_reads_20 {G : WG} {post : PO} {h : AH} {o0 : Nat} {x1 : Nat} {k : Int32 → Option (Int32)} (hs : x1 < 8) (hk : ∀ (x2 : Int32), OkA (k x2) (fun q => post (some q) h) → Rn G M_X1_reads (0, 0) 55 [(0, .ref (ad G o0)), (1, .ref (gK G x1)), (2, .int x2)] [] h post) : ∀ (n : Nat) (x2 : Int32), OkA (L_X1_reads_20 h o0 x1 k n x2) (fun q => post (some q) h) → Rn G M_X1_reads (0, 0) 20 [(0, .ref (ad G o0)), (1, .ref (gK G x1)), (2, .int x2)] [] h post := by
  intro n
  induction n with
  | zero => intro _ hf; exact absurd hf ok_none
  | succ n ih =>
    intro x2 hf
    refine rn_iload_n 21 dX1_reads_20 rfl rfl ?_
    refine rn_aload_n 22 dX1_reads_21 rfl rfl ?_
    refine rn_slen 25 (st := [.int x2]) (i := x1) dX1_reads_22 rfl l_X1_98 ⟨Nat.le_of_ble_eq_true rfl, Nat.le_of_ble_eq_true rfl⟩ hs (Nat.le_of_ble_eq_true rfl) ?_
    refine ro_icmp_ge 55 28 dX1_reads_25 rfl rfl hf (fun hf => ?_) (fun hf => ?_)
    · exact hk _ hf
    · refine rn_aload_n 29 dX1_reads_28 rfl rfl ?_
      refine ro_gtR 32 dX1_reads_29 rfl f_X1_9 ft_1_0 hf (fun r1 hf => ?_)
      refine rn_aload_n 33 dX1_reads_32 rfl rfl ?_
      refine ro_gtI 36 dX1_reads_33 rfl f_X1_29 ft_1_3 hf (fun v2 hf => ?_)
      refine rn_iload_n 37 dX1_reads_36 rfl rfl ?_
      refine rn_iadd 38 dX1_reads_37 rfl ?_
      refine ro_caload 39 dX1_reads_38 rfl hf (fun v3 hf => ?_)
      refine rn_aload_n 40 dX1_reads_39 rfl rfl ?_
      refine rn_iload_n 41 dX1_reads_40 rfl rfl ?_
      refine ro_sAt 44 (st := [.int v3]) dX1_reads_41 rfl l_X1_102 ⟨Nat.le_of_ble_eq_true rfl, Nat.le_of_ble_eq_true rfl⟩ hs (Nat.le_of_ble_eq_true rfl) hf (fun v4 hf => ?_)
      refine ro_icmp_eq 49 47 dX1_reads_44 rfl rfl hf (fun hf => ?_) (fun hf => ?_)
      · refine rn_iinc (lv' := [(0, .ref (ad G o0)), (1, .ref (gK G x1)), (2, .int (x2 + 1))]) 52 dX1_reads_49 rfl (Nat.le_of_ble_eq_true rfl) rfl (inc_1 _) rfl ?_
        refine rn_goto 20 dX1_reads_52 rfl ?_
        exact ih _ hf
      · refine rn_iconst 48 dX1_reads_47 rfl ic_0 ?_
        exact rn_iret .boolean dX1_reads_48 rfl rfl (Or.inl rfl) (ok_some hf :)
theorem T_X1_reads {G : WG} {post : PO} {h : AH} {o : Nat} {x1 : Nat} (hs : x1 < 8) (hf : OkA (F_X1_reads h o x1) (fun q => post (some q) h)) : Rn G M_X1_reads (0, 0) 0 [(0, .ref (ad G o)), (1, .ref (gK G x1))] [] h post := by
  obtain ⟨_, hf⟩ := ok_ck2 hf
  refine rn_aload_n 1 dX1_reads_0 rfl rfl ?_
  refine ro_gtI 4 dX1_reads_1 rfl f_X1_22 ft_1_4 hf (fun v1 hf => ?_)
  refine rn_aload_n 5 dX1_reads_4 rfl rfl ?_
  refine ro_gtI 8 dX1_reads_5 rfl f_X1_29 ft_1_3 hf (fun v2 hf => ?_)
  refine rn_isub 9 dX1_reads_8 rfl ?_
  refine rn_aload_n 10 dX1_reads_9 rfl rfl ?_
  refine rn_slen 13 (st := [.int (v1 - v2)]) (i := x1) dX1_reads_10 rfl l_X1_98 ⟨Nat.le_of_ble_eq_true rfl, Nat.le_of_ble_eq_true rfl⟩ hs (Nat.le_of_ble_eq_true rfl) ?_
  refine ro_icmp_eq 18 16 dX1_reads_13 rfl rfl hf (fun hf => ?_) (fun hf => ?_)
  · refine rn_iconst 19 dX1_reads_18 rfl ic_0 ?_
    refine rn_istore_n (lv' := [(0, .ref (ad G o)), (1, .ref (gK G x1)), (2, .int 0)]) 20 dX1_reads_19 rfl (Nat.le_of_ble_eq_true rfl) rfl ?_
    refine TL_X1_reads_20 hs ?_ FU _ hf
    intro y5 hf
    refine rn_iconst 56 dX1_reads_55 rfl ic_1 ?_
    exact rn_iret .boolean dX1_reads_56 rfl rfl (Or.inl rfl) (ok_some hf :)
  · refine rn_iconst 17 dX1_reads_16 rfl ic_0 ?_
    exact rn_iret .boolean dX1_reads_17 rfl rfl (Or.inl rfl) (ok_some hf :)
theorem T_X2_clearNews {G : WG} {post : PO} {h : AH} {o : Nat} (hf : OkA (F_X2_clearNews h o) (fun q => post none q)) : Rn G M_X2_clearNews (0, 0) 0 [(0, .ref (ad G o))] [] h post := by
  obtain ⟨_, hf⟩ := ok_ck2 hf
  refine rn_aload_n 1 dX2_clearNews_0 rfl rfl ?_
  refine ro_gtR 4 dX2_clearNews_1 rfl f_X2_27 ft_2_7 hf (fun r1 hf => ?_)
  refine rn_iconst 5 dX2_clearNews_4 rfl ic_m1 ?_
  refine ro_cSv (M' := M_J7_fill_53178) (As := [.ref (ad G r1), .int (-1)]) (st := []) 8 (0, 0) dX2_clearNews_5 rfl l_X2_30 v_J7_fill_53178 ⟨Nat.le_of_ble_eq_true rfl, Nat.le_of_ble_eq_true rfl⟩ rfl rfl (Nat.le_of_ble_eq_true rfl) (Nat.le_of_ble_eq_true rfl) ⟨rfl, Nat.le_of_ble_eq_true rfl, Nat.le_of_ble_eq_true rfl⟩ hf (fun X z => T_J7_fill_53178 z) (fun h2 hf => ?_)
  exact rn_vret dX2_clearNews_8 rfl (Or.inl rfl) (ok_some hf :)
