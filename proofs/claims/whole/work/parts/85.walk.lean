theorem TL_X5_ask_43 {G : WG} {post : PO} {β : Type} {P : β → Prop} {h : AH} {o0 : Nat} {x1 : Int32} {x2 : Int32} {k : Int32 → Int32 → Int32 → Option (β)} (hk : ∀ (x3 : Int32) (x4 : Int32) (x5 : Int32), OkA (k x3 x4 x5) P → Rn G M_X5_ask (0, 0) 114 [(0, .ref (ad G o0)), (1, .int x1), (2, .int x2), (3, .int x3), (4, .int x4), (5, .int x5)] [] h post) : ∀ (n : Nat) (x3 : Int32) (x4 : Int32) (x5 : Int32), OkA (L_X5_ask_43 h o0 x1 x2 k n x3 x4 x5) P → Rn G M_X5_ask (0, 0) 43 [(0, .ref (ad G o0)), (1, .int x1), (2, .int x2), (3, .int x3), (4, .int x4), (5, .int x5)] [] h post := by
  intro n
  induction n with
  | zero => intro _ _ _ hf; exact absurd hf ok_none
  | succ n ih =>
    intro x3 x4 x5 hf
    refine rn_iload 45 dX5_ask_43 rfl rfl ?_
    refine rn_aload_n 46 dX5_ask_45 rfl rfl ?_
    refine ro_gtR 49 dX5_ask_46 rfl f_X5_7 ft_5_0 hf (fun r1 hf => ?_)
    refine rn_bipush 51 dX5_ask_49 rfl bp_25 ?_
    refine ro_iaload 52 dX5_ask_51 rfl hf (fun v2 hf => ?_)
    refine ro_icmp_ge 114 55 dX5_ask_52 rfl rfl hf (fun hf => ?_) (fun hf => ?_)
    · exact hk _ _ _ hf
    · refine rn_aload_n 56 dX5_ask_55 rfl rfl ?_
      refine ro_gtR 59 dX5_ask_56 rfl f_X5_44 ft_5_20 hf (fun r3 hf => ?_)
      refine rn_bipush 61 dX5_ask_59 rfl bp_39 ?_
      refine rn_iload 63 dX5_ask_61 rfl rfl ?_
      refine rn_iadd 64 dX5_ask_63 rfl ?_
      refine ro_iaload 65 dX5_ask_64 rfl hf (fun v4 hf => ?_)
      refine rn_aload_n 66 dX5_ask_65 rfl rfl ?_
      refine ro_gtR 69 dX5_ask_66 rfl f_X5_16 ft_5_2 hf (fun r5 hf => ?_)
      refine rn_bipush 71 dX5_ask_69 rfl bp_39 ?_
      refine rn_iload 73 dX5_ask_71 rfl rfl ?_
      refine rn_iadd 74 dX5_ask_73 rfl ?_
      refine ro_iaload 75 dX5_ask_74 rfl hf (fun v6 hf => ?_)
      refine rn_isub 76 dX5_ask_75 rfl ?_
      refine rn_istore (lv' := [(0, .ref (ad G o0)), (1, .int x1), (2, .int x2), (3, .int x3), (4, .int x4), (5, .int x5), (6, .int (v4 - v6))]) 78 dX5_ask_76 rfl (Nat.le_of_ble_eq_true rfl) rfl ?_
      refine rn_iload 80 dX5_ask_78 rfl rfl ?_
      refine rn_iload 82 dX5_ask_80 rfl rfl ?_
      refine ro_reg (X := (fun q7 : Int32 => Rn G M_X5_ask (0, 0) 91 [(0, .ref (ad G o0)), (1, .int x1), (2, .int x2), (3, .int x3), (4, .int x4), (5, .int x5), (6, .int (v4 - v6))] [.int q7] h post)) hf (fun q7 hf => ?_) (fun hf => ?_)
      · refine rn_istore_n (lv' := [(0, .ref (ad G o0)), (1, .int x1), (2, .int x2), (3, .int q7), (4, .int x4), (5, .int x5), (6, .int (v4 - v6))]) 92 dX5_ask_91 rfl (Nat.le_of_ble_eq_true rfl) rfl ?_
        refine rn_iload 94 dX5_ask_92 rfl rfl ?_
        refine rn_iload 96 dX5_ask_94 rfl rfl ?_
        refine ro_reg (X := (fun q8 : Int32 => Rn G M_X5_ask (0, 0) 106 [(0, .ref (ad G o0)), (1, .int x1), (2, .int x2), (3, .int q7), (4, .int x4), (5, .int x5), (6, .int (v4 - v6))] [.int q8] h post)) hf (fun q8 hf => ?_) (fun hf => ?_)
        · refine rn_istore (lv' := [(0, .ref (ad G o0)), (1, .int x1), (2, .int x2), (3, .int q7), (4, .int q8), (5, .int x5), (6, .int (v4 - v6))]) 108 dX5_ask_106 rfl (Nat.le_of_ble_eq_true rfl) rfl ?_
          refine rn_iinc (lv' := [(0, .ref (ad G o0)), (1, .int x1), (2, .int x2), (3, .int q7), (4, .int q8), (5, .int (x5 + 1)), (6, .int (v4 - v6))]) 111 dX5_ask_108 rfl (Nat.le_of_ble_eq_true rfl) rfl (inc_1 _) rfl ?_
          refine rn_goto 43 dX5_ask_111 rfl ?_
          refine rn_take (lv' := [(0, .ref (ad G o0)), (1, .int x1), (2, .int x2), (3, .int q7), (4, .int q8), (5, .int (x5 + 1))]) [0, 1, 2, 3, 4, 5] rfl ?_
          exact ih _ _ _ hf
        · refine ro_icmp_le 104 99 dX5_ask_96 rfl rfl hf (fun hf => ?_) (fun hf => ?_)
          · refine rn_iload 106 dX5_ask_104 rfl rfl ?_
            exact (ok_some hf :)
          · refine rn_iload 101 dX5_ask_99 rfl rfl ?_
            refine rn_goto 106 dX5_ask_101 rfl ?_
            exact (ok_some hf :)
      · refine ro_icmp_le 90 85 dX5_ask_82 rfl rfl hf (fun hf => ?_) (fun hf => ?_)
        · refine rn_iload_n 91 dX5_ask_90 rfl rfl ?_
          exact (ok_some hf :)
        · refine rn_iload 87 dX5_ask_85 rfl rfl ?_
          refine rn_goto 91 dX5_ask_87 rfl ?_
          exact (ok_some hf :)
theorem T_X5_ask {G : WG} {post : PO} {h : AH} {o : Nat} {x1 : Int32} {x2 : Int32} (hf : OkA (F_X5_ask h o x1 x2) (fun q => post (some q.1) q.2)) : Rn G M_X5_ask (0, 0) 0 [(0, .ref (ad G o)), (1, .int x1), (2, .int x2)] [] h post := by
  obtain ⟨_, hf⟩ := ok_ck2 hf
  refine rn_iload_n 1 dX5_ask_0 rfl rfl ?_
  refine rn_i2l 2 dX5_ask_1 rfl ?_
  refine rn_lconst 3 dX5_ask_2 rfl lc_0 ?_
  refine rn_ldc2 6 dX5_ask_3 rfl k_X5_192 ?_
  refine ro_cSp (M' := M_X5_in) (As := [.long x1.toInt64, .long 0, .long 30]) (st := []) 9 (0, 0) dX5_ask_6 rfl l_X5_63 v_X5_in ⟨Nat.le_of_ble_eq_true rfl, Nat.le_of_ble_eq_true rfl⟩ rfl rfl (Nat.le_of_ble_eq_true rfl) (Nat.le_of_ble_eq_true rfl) ⟨rfl, Nat.le_of_ble_eq_true rfl, Nat.le_of_ble_eq_true rfl⟩ hf (fun X z => T_X5_in z) (fun v1 hf => ?_)
  refine ro_if_eq 19 12 dX5_ask_9 rfl rfl hf (fun hf => ?_) (fun hf => ?_)
  · refine rn_bipush 21 dX5_ask_19 rfl bp_m3 ?_
    exact rn_iret .int dX5_ask_21 rfl rfl (Or.inl rfl) (ok_some hf :)
  · refine rn_iload_n 13 dX5_ask_12 rfl rfl ?_
    refine ro_cSp (M' := M_X5_isTwo) (As := [.int x2]) (st := []) 16 (0, 0) dX5_ask_13 rfl l_X5_189 v_X5_isTwo ⟨Nat.le_of_ble_eq_true rfl, Nat.le_of_ble_eq_true rfl⟩ rfl rfl (Nat.le_of_ble_eq_true rfl) (Nat.le_of_ble_eq_true rfl) ⟨rfl, Nat.le_of_ble_eq_true rfl, Nat.le_of_ble_eq_true rfl⟩ hf (fun X z => T_X5_isTwo z) (fun v2 hf => ?_)
    refine ro_if_ne 22 19 dX5_ask_16 rfl rfl hf (fun hf => ?_) (fun hf => ?_)
    · refine rn_aload_n 23 dX5_ask_22 rfl rfl ?_
      refine ro_cVv (M' := M_X5_asTold) (As := []) (o := o) (st := []) 26 (0, 0) dX5_ask_23 rfl l_X5_173 v_X5_asTold ⟨Nat.le_of_ble_eq_true rfl, Nat.le_of_ble_eq_true rfl⟩ rfl rfl (Nat.le_of_ble_eq_true rfl) (Nat.le_of_ble_eq_true rfl) ⟨rfl, Nat.le_of_ble_eq_true rfl, Nat.le_of_ble_eq_true rfl⟩ hf (fun X z => ok_ck z) rfl (fun X z => T_X5_asTold z) (fun h3 hf => ?_)
      refine rn_aload_n 27 dX5_ask_26 rfl rfl ?_
      refine ro_cVv (M' := M_X5_layAside) (As := []) (o := o) (st := []) 30 (0, 0) dX5_ask_27 rfl l_X5_194 v_X5_layAside ⟨Nat.le_of_ble_eq_true rfl, Nat.le_of_ble_eq_true rfl⟩ rfl rfl (Nat.le_of_ble_eq_true rfl) (Nat.le_of_ble_eq_true rfl) ⟨rfl, Nat.le_of_ble_eq_true rfl, Nat.le_of_ble_eq_true rfl⟩ hf (fun X z => ok_ck z) rfl (fun X z => T_X5_layAside z) (fun h4 hf => ?_)
      refine rn_aload_n 31 dX5_ask_30 rfl rfl ?_
      refine rn_iload_n 32 dX5_ask_31 rfl rfl ?_
      refine ro_cVv (M' := M_X5_go) (As := [.int x1]) (o := o) (st := []) 35 (0, 0) dX5_ask_32 rfl l_X5_197 v_X5_go ⟨Nat.le_of_ble_eq_true rfl, Nat.le_of_ble_eq_true rfl⟩ rfl rfl (Nat.le_of_ble_eq_true rfl) (Nat.le_of_ble_eq_true rfl) ⟨rfl, Nat.le_of_ble_eq_true rfl, Nat.le_of_ble_eq_true rfl⟩ hf (fun X z => ok_ck z) rfl (fun X z => T_X5_go z) (fun h5 hf => ?_)
      refine rn_iconst 36 dX5_ask_35 rfl ic_m1 ?_
      refine rn_istore_n (lv' := [(0, .ref (ad G o)), (1, .int x1), (2, .int x2), (3, .int (-1))]) 37 dX5_ask_36 rfl (Nat.le_of_ble_eq_true rfl) rfl ?_
      refine rn_iconst 38 dX5_ask_37 rfl ic_m1 ?_
      refine rn_istore (lv' := [(0, .ref (ad G o)), (1, .int x1), (2, .int x2), (3, .int (-1)), (4, .int (-1))]) 40 dX5_ask_38 rfl (Nat.le_of_ble_eq_true rfl) rfl ?_
      refine rn_iconst 41 dX5_ask_40 rfl ic_0 ?_
      refine rn_istore (lv' := [(0, .ref (ad G o)), (1, .int x1), (2, .int x2), (3, .int (-1)), (4, .int (-1)), (5, .int 0)]) 43 dX5_ask_41 rfl (Nat.le_of_ble_eq_true rfl) rfl ?_
      refine TL_X5_ask_43 ?_ FU _ _ _ hf
      intro y9 y10 y11 hf
      refine rn_iload_n 115 dX5_ask_114 rfl rfl ?_
      refine ro_if_ne 122 118 dX5_ask_115 rfl rfl hf (fun hf => ?_) (fun hf => ?_)
      · refine rn_iload 124 dX5_ask_122 rfl rfl ?_
        exact rn_iret .int dX5_ask_124 rfl rfl (Or.inl rfl) (ok_some hf :)
      · refine rn_iload_n 119 dX5_ask_118 rfl rfl ?_
        refine rn_goto 124 dX5_ask_119 rfl ?_
        exact rn_iret .int dX5_ask_124 rfl rfl (Or.inl rfl) (ok_some hf :)
    · refine rn_bipush 21 dX5_ask_19 rfl bp_m3 ?_
      exact rn_iret .int dX5_ask_21 rfl rfl (Or.inl rfl) (ok_some hf :)
theorem T_X4_hitIndex {G : WG} {post : PO} {h : AH} {x0 : Int32} {x1 : Int32} (hf : OkA (F_X4_hitIndex h x0 x1) (fun q => post (some q) h)) : Rn G M_X4_hitIndex (0, 0) 0 [(0, .int x0), (1, .int x1)] [] h post := by
  refine rn_iload_n 1 dX4_hitIndex_0 rfl rfl ?_
  refine rn_bipush 3 dX4_hitIndex_1 rfl bp_8 ?_
  refine rn_imul 4 dX4_hitIndex_3 rfl ?_
  refine rn_iload_n 5 dX4_hitIndex_4 rfl rfl ?_
  refine rn_iadd 6 dX4_hitIndex_5 rfl ?_
  exact rn_iret .int dX4_hitIndex_6 rfl rfl (Or.inl rfl) (ok_some hf :)
theorem TL_X4_tallyEggs_2 {G : WG} {post : PO} {β : Type} {P : β → Prop} {o0 : Nat} {x1 : Int32} {k : AH → Int32 → Option (β)} (hk : ∀ (h : AH) (x2 : Int32), OkA (k h x2) P → Rn G M_X4_tallyEggs (0, 0) 46 [(0, .ref (ad G o0)), (1, .int x1), (2, .int x2)] [] h post) : ∀ (n : Nat) (h : AH) (x2 : Int32), OkA (L_X4_tallyEggs_2 o0 x1 k n h x2) P → Rn G M_X4_tallyEggs (0, 0) 2 [(0, .ref (ad G o0)), (1, .int x1), (2, .int x2)] [] h post := by
  intro n
  induction n with
  | zero => intro _ _ hf; exact absurd hf ok_none
  | succ n ih =>
    intro h x2 hf
    refine rn_iload_n 3 dX4_tallyEggs_2 rfl rfl ?_
    refine rn_aload_n 4 dX4_tallyEggs_3 rfl rfl ?_
    refine ro_gtR 7 dX4_tallyEggs_4 rfl f_X4_19 ft_4_1 hf (fun r1 hf => ?_)
    refine ro_gtI 10 dX4_tallyEggs_7 rfl f_X4_127 ft_2_0 hf (fun v2 hf => ?_)
    refine ro_icmp_ge 46 13 dX4_tallyEggs_10 rfl rfl hf (fun hf => ?_) (fun hf => ?_)
    · exact hk _ _ hf
    · refine rn_aload_n 14 dX4_tallyEggs_13 rfl rfl ?_
      refine ro_gtR 17 dX4_tallyEggs_14 rfl f_X4_33 ft_4_4 hf (fun r3 hf => ?_)
      refine ro_gtR 20 dX4_tallyEggs_17 rfl f_X4_99 ft_3_2 hf (fun r4 hf => ?_)
      refine rn_iload_n 21 dX4_tallyEggs_20 rfl rfl ?_
      refine ro_iaload 22 dX4_tallyEggs_21 rfl hf (fun v5 hf => ?_)
      refine rn_iconst 23 dX4_tallyEggs_22 rfl ic_m1 ?_
      refine ro_reg (X := (fun q6 : AH => Rn G M_X4_tallyEggs (0, 0) 40 [(0, .ref (ad G o0)), (1, .int x1), (2, .int x2)] [] q6 post)) hf (fun q6 hf => ?_) (fun hf => ?_)
      · refine rn_iinc (lv' := [(0, .ref (ad G o0)), (1, .int x1), (2, .int (x2 + 1))]) 43 dX4_tallyEggs_40 rfl (Nat.le_of_ble_eq_true rfl) rfl (inc_1 _) rfl ?_
        refine rn_goto 2 dX4_tallyEggs_43 rfl ?_
        exact ih _ _ hf
      · refine ro_icmp_eq 40 26 dX4_tallyEggs_23 rfl rfl hf (fun hf => ?_) (fun hf => ?_)
        · exact (ok_some hf :)
        · refine rn_aload_n 27 dX4_tallyEggs_26 rfl rfl ?_
          refine ro_gtR 30 dX4_tallyEggs_27 rfl f_X4_54 ft_4_10 hf (fun r7 hf => ?_)
          refine rn_iload_n 31 dX4_tallyEggs_30 rfl rfl ?_
          refine rn_iload_n 32 dX4_tallyEggs_31 rfl rfl ?_
          refine ro_cSp (M' := M_X4_hitIndex) (As := [.int x2, .int x1]) (st := [.ref (ad G r7)]) 35 (0, 0) dX4_tallyEggs_32 rfl l_X4_228 v_X4_hitIndex ⟨Nat.le_of_ble_eq_true rfl, Nat.le_of_ble_eq_true rfl⟩ rfl rfl (Nat.le_of_ble_eq_true rfl) (Nat.le_of_ble_eq_true rfl) ⟨rfl, Nat.le_of_ble_eq_true rfl, Nat.le_of_ble_eq_true rfl⟩ hf (fun X z => T_X4_hitIndex z) (fun v8 hf => ?_)
          refine rn_dup2 36 dX4_tallyEggs_35 rfl rfl rfl ?_
          refine ro_iaload 37 dX4_tallyEggs_36 rfl hf (fun v9 hf => ?_)
          refine rn_iconst 38 dX4_tallyEggs_37 rfl ic_1 ?_
          refine rn_iadd 39 dX4_tallyEggs_38 rfl ?_
          refine ro_iastore 40 dX4_tallyEggs_39 rfl hf (fun h10 hf => ?_)
          exact (ok_some hf :)
theorem T_X4_tallyEggs {G : WG} {post : PO} {h : AH} {o : Nat} {x1 : Int32} (hf : OkA (F_X4_tallyEggs h o x1) (fun q => post none q)) : Rn G M_X4_tallyEggs (0, 0) 0 [(0, .ref (ad G o)), (1, .int x1)] [] h post := by
  obtain ⟨_, hf⟩ := ok_ck2 hf
  refine rn_iconst 1 dX4_tallyEggs_0 rfl ic_0 ?_
  refine rn_istore_n (lv' := [(0, .ref (ad G o)), (1, .int x1), (2, .int 0)]) 2 dX4_tallyEggs_1 rfl (Nat.le_of_ble_eq_true rfl) rfl ?_
  refine TL_X4_tallyEggs_2 ?_ FU _ _ hf
  intro h11 y12 hf
  exact rn_vret dX4_tallyEggs_46 rfl (Or.inl rfl) (ok_some hf :)
theorem TL_X4_tallyHits_21 {G : WG} {post : PO} {β : Type} {P : β → Prop} {o0 : Nat} {x1 : Int32} {k : AH → Int32 → Option (β)} (hk : ∀ (h : AH) (x2 : Int32), OkA (k h x2) P → Rn G M_X4_tallyHits (0, 0) 68 [(0, .ref (ad G o0)), (1, .int x1), (2, .int x2)] [] h post) : ∀ (n : Nat) (h : AH) (x2 : Int32), OkA (L_X4_tallyHits_21 o0 x1 k n h x2) P → Rn G M_X4_tallyHits (0, 0) 21 [(0, .ref (ad G o0)), (1, .int x1), (2, .int x2)] [] h post := by
  intro n
  induction n with
  | zero => intro _ _ hf; exact absurd hf ok_none
  | succ n ih =>
    intro h x2 hf
    refine rn_iload_n 22 dX4_tallyHits_21 rfl rfl ?_
    refine rn_iload_n 23 dX4_tallyHits_22 rfl rfl ?_
    refine ro_icmp_ge 68 26 dX4_tallyHits_23 rfl rfl hf (fun hf => ?_) (fun hf => ?_)
    · exact hk _ _ hf
    · refine rn_aload_n 27 dX4_tallyHits_26 rfl rfl ?_
      refine ro_gtR 30 dX4_tallyHits_27 rfl f_X4_19 ft_4_1 hf (fun r1 hf => ?_)
      refine rn_aload_n 31 dX4_tallyHits_30 rfl rfl ?_
      refine ro_gtR 34 dX4_tallyHits_31 rfl f_X4_33 ft_4_4 hf (fun r2 hf => ?_)
      refine ro_gtI 37 dX4_tallyHits_34 rfl f_X4_134 ft_3_9 hf (fun v3 hf => ?_)
      refine ro_cVp (M' := M_X2_newsOf) (As := [.int v3]) (o := r1) (st := []) 40 (0, 0) dX4_tallyHits_37 rfl l_X4_222 v_X2_newsOf ⟨Nat.le_of_ble_eq_true rfl, Nat.le_of_ble_eq_true rfl⟩ rfl rfl (Nat.le_of_ble_eq_true rfl) (Nat.le_of_ble_eq_true rfl) ⟨rfl, Nat.le_of_ble_eq_true rfl, Nat.le_of_ble_eq_true rfl⟩ hf (fun X z => ok_ck z) rfl (fun X z => T_X2_newsOf z) (fun v4 hf => ?_)
      refine rn_istore_n (lv' := [(0, .ref (ad G o0)), (1, .int x1), (2, .int x2), (3, .int v4)]) 41 dX4_tallyHits_40 rfl (Nat.le_of_ble_eq_true rfl) rfl ?_
      refine rn_aload_n 42 dX4_tallyHits_41 rfl rfl ?_
      refine ro_gtR 45 dX4_tallyHits_42 rfl f_X4_33 ft_4_4 hf (fun r5 hf => ?_)
      refine rn_aload_n 46 dX4_tallyHits_45 rfl rfl ?_
      refine ro_gtR 49 dX4_tallyHits_46 rfl f_X4_19 ft_4_1 hf (fun r6 hf => ?_)
      refine ro_cVv (M' := M_X3_passDay) (As := [.ref (ad G r6)]) (o := r5) (st := []) 52 (0, 0) dX4_tallyHits_49 rfl l_X4_140 v_X3_passDay ⟨Nat.le_of_ble_eq_true rfl, Nat.le_of_ble_eq_true rfl⟩ rfl rfl (Nat.le_of_ble_eq_true rfl) (Nat.le_of_ble_eq_true rfl) ⟨rfl, Nat.le_of_ble_eq_true rfl, Nat.le_of_ble_eq_true rfl⟩ hf (fun X z => ok_ck z) rfl (fun X z => T_X3_passDay z) (fun h7 hf => ?_)
      refine rn_iload_n 53 dX4_tallyHits_52 rfl rfl ?_
      refine rn_iconst 54 dX4_tallyHits_53 rfl ic_m1 ?_
      refine ro_reg (X := (fun q8 : AH => Rn G M_X4_tallyHits (0, 0) 62 [(0, .ref (ad G o0)), (1, .int x1), (2, .int x2), (3, .int v4)] [] q8 post)) hf (fun q8 hf => ?_) (fun hf => ?_)
      · refine rn_iinc (lv' := [(0, .ref (ad G o0)), (1, .int x1), (2, .int (x2 + 1)), (3, .int v4)]) 65 dX4_tallyHits_62 rfl (Nat.le_of_ble_eq_true rfl) rfl (inc_1 _) rfl ?_
        refine rn_goto 21 dX4_tallyHits_65 rfl ?_
        refine rn_take (lv' := [(0, .ref (ad G o0)), (1, .int x1), (2, .int (x2 + 1))]) [0, 1, 2] rfl ?_
        exact ih _ _ hf
      · refine ro_icmp_eq 62 57 dX4_tallyHits_54 rfl rfl hf (fun hf => ?_) (fun hf => ?_)
        · exact (ok_some hf :)
        · refine rn_aload_n 58 dX4_tallyHits_57 rfl rfl ?_
          refine rn_iload_n 59 dX4_tallyHits_58 rfl rfl ?_
          refine ro_cVv (M' := M_X4_tallyEggs) (As := [.int v4]) (o := o0) (st := []) 62 (0, 0) dX4_tallyHits_59 rfl l_X4_225 v_X4_tallyEggs ⟨Nat.le_of_ble_eq_true rfl, Nat.le_of_ble_eq_true rfl⟩ rfl rfl (Nat.le_of_ble_eq_true rfl) (Nat.le_of_ble_eq_true rfl) ⟨rfl, Nat.le_of_ble_eq_true rfl, Nat.le_of_ble_eq_true rfl⟩ hf (fun X z => ok_ck z) rfl (fun X z => T_X4_tallyEggs z) (fun h9 hf => ?_)
          exact (ok_some hf :)
theorem T_X4_tallyHits {G : WG} {post : PO} {h : AH} {o : Nat} {x1 : Int32} (hf : OkA (F_X4_tallyHits h o x1) (fun q => post none q)) : Rn G M_X4_tallyHits (0, 0) 0 [(0, .ref (ad G o)), (1, .int x1)] [] h post := by
  obtain ⟨_, hf⟩ := ok_ck2 hf
  refine rn_aload_n 1 dX4_tallyHits_0 rfl rfl ?_
  refine ro_gtR 4 dX4_tallyHits_1 rfl f_X4_54 ft_4_10 hf (fun r1 hf => ?_)
  refine rn_iconst 5 dX4_tallyHits_4 rfl ic_0 ?_
  refine ro_cSv (M' := M_J7_fill_53178) (As := [.ref (ad G r1), .int 0]) (st := []) 8 (0, 0) dX4_tallyHits_5 rfl l_X4_216 v_J7_fill_53178 ⟨Nat.le_of_ble_eq_true rfl, Nat.le_of_ble_eq_true rfl⟩ rfl rfl (Nat.le_of_ble_eq_true rfl) (Nat.le_of_ble_eq_true rfl) ⟨rfl, Nat.le_of_ble_eq_true rfl, Nat.le_of_ble_eq_true rfl⟩ hf (fun X z => T_J7_fill_53178 z) (fun h2 hf => ?_)
  refine rn_aload_n 9 dX4_tallyHits_8 rfl rfl ?_
  refine ro_gtR 12 dX4_tallyHits_9 rfl f_X4_33 ft_4_4 hf (fun r3 hf => ?_)
  refine rn_aload_n 13 dX4_tallyHits_12 rfl rfl ?_
  refine ro_gtR 16 dX4_tallyHits_13 rfl f_X4_29 ft_4_3 hf (fun r4 hf => ?_)
  refine ro_cVv (M' := M_X3_copyFrom) (As := [.ref (ad G r4)]) (o := r3) (st := []) 19 (0, 0) dX4_tallyHits_16 rfl l_X4_163 v_X3_copyFrom ⟨Nat.le_of_ble_eq_true rfl, Nat.le_of_ble_eq_true rfl⟩ rfl rfl (Nat.le_of_ble_eq_true rfl) (Nat.le_of_ble_eq_true rfl) ⟨rfl, Nat.le_of_ble_eq_true rfl, Nat.le_of_ble_eq_true rfl⟩ hf (fun X z => ok_ck z) rfl (fun X z => T_X3_copyFrom z) (fun h5 hf => ?_)
  refine rn_iconst 20 dX4_tallyHits_19 rfl ic_0 ?_
  refine rn_istore_n (lv' := [(0, .ref (ad G o)), (1, .int x1), (2, .int 0)]) 21 dX4_tallyHits_20 rfl (Nat.le_of_ble_eq_true rfl) rfl ?_
  refine TL_X4_tallyHits_21 ?_ FU _ _ hf
  intro h10 y11 hf
  exact rn_vret dX4_tallyHits_68 rfl (Or.inl rfl) (ok_some hf :)
theorem T_X4_gainOfMove {G : WG} {post : PO} {h : AH} {o : Nat} {x1 : Int32} {x2 : Int32} (hf : OkA (F_X4_gainOfMove h o x1 x2) (fun q => post (some q) h)) : Rn G M_X4_gainOfMove (0, 0) 0 [(0, .ref (ad G o)), (1, .int x1), (2, .int x2)] [] h post := by
  obtain ⟨_, hf⟩ := ok_ck2 hf
  refine rn_aload_n 1 dX4_gainOfMove_0 rfl rfl ?_
  refine ro_gtR 4 dX4_gainOfMove_1 rfl f_X4_29 ft_4_3 hf (fun r1 hf => ?_)
  refine ro_gtR 7 dX4_gainOfMove_4 rfl f_X4_90 ft_3_0 hf (fun r2 hf => ?_)
  refine rn_iload_n 8 dX4_gainOfMove_7 rfl rfl ?_
  refine ro_iaload 9 dX4_gainOfMove_8 rfl hf (fun v3 hf => ?_)
  refine rn_istore_n (lv' := [(0, .ref (ad G o)), (1, .int x1), (2, .int x2), (3, .int v3)]) 10 dX4_gainOfMove_9 rfl (Nat.le_of_ble_eq_true rfl) rfl ?_
  refine rn_aload_n 11 dX4_gainOfMove_10 rfl rfl ?_
  refine ro_gtR 14 dX4_gainOfMove_11 rfl f_X4_29 ft_4_3 hf (fun r4 hf => ?_)
  refine ro_gtR 17 dX4_gainOfMove_14 rfl f_X4_90 ft_3_0 hf (fun r5 hf => ?_)
  refine rn_iload_n 18 dX4_gainOfMove_17 rfl rfl ?_
  refine ro_iaload 19 dX4_gainOfMove_18 rfl hf (fun v6 hf => ?_)
  refine rn_istore (lv' := [(0, .ref (ad G o)), (1, .int x1), (2, .int x2), (3, .int v3), (4, .int v6)]) 21 dX4_gainOfMove_19 rfl (Nat.le_of_ble_eq_true rfl) rfl ?_
  refine rn_aload_n 22 dX4_gainOfMove_21 rfl rfl ?_
  refine ro_gtR 25 dX4_gainOfMove_22 rfl f_X4_54 ft_4_10 hf (fun r7 hf => ?_)
  refine rn_iload_n 26 dX4_gainOfMove_25 rfl rfl ?_
  refine rn_iload 28 dX4_gainOfMove_26 rfl rfl ?_
  refine ro_cSp (M' := M_X4_hitIndex) (As := [.int x1, .int v6]) (st := [.ref (ad G r7)]) 31 (0, 0) dX4_gainOfMove_28 rfl l_X4_228 v_X4_hitIndex ⟨Nat.le_of_ble_eq_true rfl, Nat.le_of_ble_eq_true rfl⟩ rfl rfl (Nat.le_of_ble_eq_true rfl) (Nat.le_of_ble_eq_true rfl) ⟨rfl, Nat.le_of_ble_eq_true rfl, Nat.le_of_ble_eq_true rfl⟩ hf (fun X z => T_X4_hitIndex z) (fun v8 hf => ?_)
  refine ro_iaload 32 dX4_gainOfMove_31 rfl hf (fun v9 hf => ?_)
  refine rn_aload_n 33 dX4_gainOfMove_32 rfl rfl ?_
  refine ro_gtR 36 dX4_gainOfMove_33 rfl f_X4_54 ft_4_10 hf (fun r10 hf => ?_)
  refine rn_iload_n 37 dX4_gainOfMove_36 rfl rfl ?_
  refine rn_iload_n 38 dX4_gainOfMove_37 rfl rfl ?_
  refine ro_cSp (M' := M_X4_hitIndex) (As := [.int x2, .int v3]) (st := [.ref (ad G r10), .int v9]) 41 (0, 0) dX4_gainOfMove_38 rfl l_X4_228 v_X4_hitIndex ⟨Nat.le_of_ble_eq_true rfl, Nat.le_of_ble_eq_true rfl⟩ rfl rfl (Nat.le_of_ble_eq_true rfl) (Nat.le_of_ble_eq_true rfl) ⟨rfl, Nat.le_of_ble_eq_true rfl, Nat.le_of_ble_eq_true rfl⟩ hf (fun X z => T_X4_hitIndex z) (fun v11 hf => ?_)
  refine ro_iaload 42 dX4_gainOfMove_41 rfl hf (fun v12 hf => ?_)
  refine rn_iadd 43 dX4_gainOfMove_42 rfl ?_
  refine rn_aload_n 44 dX4_gainOfMove_43 rfl rfl ?_
  refine ro_gtR 47 dX4_gainOfMove_44 rfl f_X4_54 ft_4_10 hf (fun r13 hf => ?_)
  refine rn_iload_n 48 dX4_gainOfMove_47 rfl rfl ?_
  refine rn_iload_n 49 dX4_gainOfMove_48 rfl rfl ?_
  refine ro_cSp (M' := M_X4_hitIndex) (As := [.int x1, .int v3]) (st := [.ref (ad G r13), .int (v9 + v12)]) 52 (0, 0) dX4_gainOfMove_49 rfl l_X4_228 v_X4_hitIndex ⟨Nat.le_of_ble_eq_true rfl, Nat.le_of_ble_eq_true rfl⟩ rfl rfl (Nat.le_of_ble_eq_true rfl) (Nat.le_of_ble_eq_true rfl) ⟨rfl, Nat.le_of_ble_eq_true rfl, Nat.le_of_ble_eq_true rfl⟩ hf (fun X z => T_X4_hitIndex z) (fun v14 hf => ?_)
  refine ro_iaload 53 dX4_gainOfMove_52 rfl hf (fun v15 hf => ?_)
  refine rn_isub 54 dX4_gainOfMove_53 rfl ?_
  refine rn_aload_n 55 dX4_gainOfMove_54 rfl rfl ?_
  refine ro_gtR 58 dX4_gainOfMove_55 rfl f_X4_54 ft_4_10 hf (fun r16 hf => ?_)
  refine rn_iload_n 59 dX4_gainOfMove_58 rfl rfl ?_
  refine rn_iload 61 dX4_gainOfMove_59 rfl rfl ?_
  refine ro_cSp (M' := M_X4_hitIndex) (As := [.int x2, .int v6]) (st := [.ref (ad G r16), .int ((v9 + v12) - v15)]) 64 (0, 0) dX4_gainOfMove_61 rfl l_X4_228 v_X4_hitIndex ⟨Nat.le_of_ble_eq_true rfl, Nat.le_of_ble_eq_true rfl⟩ rfl rfl (Nat.le_of_ble_eq_true rfl) (Nat.le_of_ble_eq_true rfl) ⟨rfl, Nat.le_of_ble_eq_true rfl, Nat.le_of_ble_eq_true rfl⟩ hf (fun X z => T_X4_hitIndex z) (fun v17 hf => ?_)
  refine ro_iaload 65 dX4_gainOfMove_64 rfl hf (fun v18 hf => ?_)
  refine rn_isub 66 dX4_gainOfMove_65 rfl ?_
  exact rn_iret .int dX4_gainOfMove_66 rfl rfl (Or.inl rfl) (ok_some hf :)
theorem TL_X4_trough_44 {G : WG} {post : PO} {β : Type} {P : β → Prop} {h : AH} {o0 : Nat} {x1 : Int32} {x4 : Int32} {k : Int32 → Int32 → Int32 → Option (β)} (hk : ∀ (x2 : Int32) (x3 : Int32) (x5 : Int32), OkA (k x2 x3 x5) P → Rn G M_X4_trough (0, 0) 90 [(0, .ref (ad G o0)), (1, .int x1), (2, .int x2), (3, .int x3), (4, .int x4), (5, .int x5)] [] h post) : ∀ (n : Nat) (x2 : Int32) (x3 : Int32) (x5 : Int32), OkA (L_X4_trough_44 h o0 x1 x4 k n x2 x3 x5) P → Rn G M_X4_trough (0, 0) 44 [(0, .ref (ad G o0)), (1, .int x1), (2, .int x2), (3, .int x3), (4, .int x4), (5, .int x5)] [] h post := by
  intro n
  induction n with
  | zero => intro _ _ _ hf; exact absurd hf ok_none
  | succ n ih =>
    intro x2 x3 x5 hf
    refine rn_iload 46 dX4_trough_44 rfl rfl ?_
    refine rn_aload_n 47 dX4_trough_46 rfl rfl ?_
    refine ro_gtR 50 dX4_trough_47 rfl f_X4_19 ft_4_1 hf (fun r1 hf => ?_)
    refine ro_gtI 53 dX4_trough_50 rfl f_X4_127 ft_2_0 hf (fun v2 hf => ?_)
    refine ro_icmp_ge 90 56 dX4_trough_53 rfl rfl hf (fun hf => ?_) (fun hf => ?_)
    · exact hk _ _ _ hf
    · refine rn_aload_n 57 dX4_trough_56 rfl rfl ?_
      refine rn_iload 59 dX4_trough_57 rfl rfl ?_
      refine rn_iload 61 dX4_trough_59 rfl rfl ?_
      refine ro_cVp (M' := M_X4_gainOfMove) (As := [.int x4, .int x5]) (o := o0) (st := []) 64 (0, 0) dX4_trough_61 rfl l_X4_183 v_X4_gainOfMove ⟨Nat.le_of_ble_eq_true rfl, Nat.le_of_ble_eq_true rfl⟩ rfl rfl (Nat.le_of_ble_eq_true rfl) (Nat.le_of_ble_eq_true rfl) ⟨rfl, Nat.le_of_ble_eq_true rfl, Nat.le_of_ble_eq_true rfl⟩ hf (fun X z => ok_ck z) rfl (fun X z => T_X4_gainOfMove z) (fun v3 hf => ?_)
      refine rn_istore (lv' := [(0, .ref (ad G o0)), (1, .int x1), (2, .int x2), (3, .int x3), (4, .int x4), (5, .int x5), (6, .int v3)]) 66 dX4_trough_64 rfl (Nat.le_of_ble_eq_true rfl) rfl ?_
      refine rn_iload 68 dX4_trough_66 rfl rfl ?_
      refine rn_iload_n 69 dX4_trough_68 rfl rfl ?_
      refine ro_reg (X := (fun q4 : Int32 × Int32 => Rn G M_X4_trough (0, 0) 84 [(0, .ref (ad G o0)), (1, .int x1), (2, .int q4.1), (3, .int q4.2), (4, .int x4), (5, .int x5), (6, .int v3)] [] h post)) hf (fun q4 hf => ?_) (fun hf => ?_)
      · refine rn_iinc (lv' := [(0, .ref (ad G o0)), (1, .int x1), (2, .int q4.1), (3, .int q4.2), (4, .int x4), (5, .int (x5 + 1)), (6, .int v3)]) 87 dX4_trough_84 rfl (Nat.le_of_ble_eq_true rfl) rfl (inc_1 _) rfl ?_
        refine rn_goto 44 dX4_trough_87 rfl ?_
        refine rn_take (lv' := [(0, .ref (ad G o0)), (1, .int x1), (2, .int q4.1), (3, .int q4.2), (4, .int x4), (5, .int (x5 + 1))]) [0, 1, 2, 3, 4, 5] rfl ?_
        exact ih _ _ _ hf
      · refine ro_icmp_le 84 72 dX4_trough_69 rfl rfl hf (fun hf => ?_) (fun hf => ?_)
        · exact (ok_some hf :)
        · refine rn_iload 74 dX4_trough_72 rfl rfl ?_
          refine rn_istore_n (lv' := [(0, .ref (ad G o0)), (1, .int x1), (2, .int x2), (3, .int v3), (4, .int x4), (5, .int x5), (6, .int v3)]) 75 dX4_trough_74 rfl (Nat.le_of_ble_eq_true rfl) rfl ?_
          refine rn_bipush 77 dX4_trough_75 rfl bp_10 ?_
          refine rn_iload 79 dX4_trough_77 rfl rfl ?_
          refine rn_imul 80 dX4_trough_79 rfl ?_
          refine rn_iload 82 dX4_trough_80 rfl rfl ?_
          refine rn_iadd 83 dX4_trough_82 rfl ?_
          refine rn_istore_n (lv' := [(0, .ref (ad G o0)), (1, .int x1), (2, .int ((10 * x4) + x5)), (3, .int v3), (4, .int x4), (5, .int x5), (6, .int v3)]) 84 dX4_trough_83 rfl (Nat.le_of_ble_eq_true rfl) rfl ?_
          exact (ok_some hf :)
theorem TL_X4_trough_26 {G : WG} {post : PO} {β : Type} {P : β → Prop} {h : AH} {o0 : Nat} {x1 : Int32} {k : Int32 → Int32 → Int32 → Option (β)} (hk : ∀ (x2 : Int32) (x3 : Int32) (x4 : Int32), OkA (k x2 x3 x4) P → Rn G M_X4_trough (0, 0) 96 [(0, .ref (ad G o0)), (1, .int x1), (2, .int x2), (3, .int x3), (4, .int x4)] [] h post) : ∀ (n : Nat) (x2 : Int32) (x3 : Int32) (x4 : Int32), OkA (L_X4_trough_26 h o0 x1 k n x2 x3 x4) P → Rn G M_X4_trough (0, 0) 26 [(0, .ref (ad G o0)), (1, .int x1), (2, .int x2), (3, .int x3), (4, .int x4)] [] h post := by
  intro n
  induction n with
  | zero => intro _ _ _ hf; exact absurd hf ok_none
  | succ n ih =>
    intro x2 x3 x4 hf
    refine rn_iload 28 dX4_trough_26 rfl rfl ?_
    refine rn_aload_n 29 dX4_trough_28 rfl rfl ?_
    refine ro_gtR 32 dX4_trough_29 rfl f_X4_19 ft_4_1 hf (fun r1 hf => ?_)
    refine ro_gtI 35 dX4_trough_32 rfl f_X4_127 ft_2_0 hf (fun v2 hf => ?_)
    refine ro_icmp_ge 96 38 dX4_trough_35 rfl rfl hf (fun hf => ?_) (fun hf => ?_)
    · exact hk _ _ _ hf
    · refine rn_iload 40 dX4_trough_38 rfl rfl ?_
      refine rn_iconst 41 dX4_trough_40 rfl ic_1 ?_
      refine rn_iadd 42 dX4_trough_41 rfl ?_
      refine rn_istore (lv' := [(0, .ref (ad G o0)), (1, .int x1), (2, .int x2), (3, .int x3), (4, .int x4), (5, .int (x4 + 1))]) 44 dX4_trough_42 rfl (Nat.le_of_ble_eq_true rfl) rfl ?_
      refine TL_X4_trough_44 ?_ FU _ _ _ hf
      intro y5 y6 y7 hf
      refine rn_iinc (lv' := [(0, .ref (ad G o0)), (1, .int x1), (2, .int y5), (3, .int y6), (4, .int (x4 + 1)), (5, .int y7)]) 93 dX4_trough_90 rfl (Nat.le_of_ble_eq_true rfl) rfl (inc_1 _) rfl ?_
      refine rn_goto 26 dX4_trough_93 rfl ?_
      refine rn_take (lv' := [(0, .ref (ad G o0)), (1, .int x1), (2, .int y5), (3, .int y6), (4, .int (x4 + 1))]) [0, 1, 2, 3, 4] rfl ?_
      exact ih _ _ _ hf
theorem T_X4_trough {G : WG} {post : PO} {h : AH} {o : Nat} {x1 : Int32} (hf : OkA (F_X4_trough h o x1) (fun q => post (some q.1) q.2)) : Rn G M_X4_trough (0, 0) 0 [(0, .ref (ad G o)), (1, .int x1)] [] h post := by
  obtain ⟨_, hf⟩ := ok_ck2 hf
  refine rn_iload_n 1 dX4_trough_0 rfl rfl ?_
  refine rn_iconst 2 dX4_trough_1 rfl ic_1 ?_
  refine ro_icmp_lt 11 5 dX4_trough_2 rfl rfl hf (fun hf => ?_) (fun hf => ?_)
  · refine rn_bipush 13 dX4_trough_11 rfl bp_m3 ?_
    exact rn_iret .int dX4_trough_13 rfl rfl (Or.inl rfl) (ok_some hf :)
  · refine rn_iload_n 6 dX4_trough_5 rfl rfl ?_
    refine rn_bipush 8 dX4_trough_6 rfl bp_20 ?_
    refine ro_icmp_le 14 11 dX4_trough_8 rfl rfl hf (fun hf => ?_) (fun hf => ?_)
    · refine rn_aload_n 15 dX4_trough_14 rfl rfl ?_
      refine rn_iload_n 16 dX4_trough_15 rfl rfl ?_
      refine ro_cVv (M' := M_X4_tallyHits) (As := [.int x1]) (o := o) (st := []) 19 (0, 0) dX4_trough_16 rfl l_X4_180 v_X4_tallyHits ⟨Nat.le_of_ble_eq_true rfl, Nat.le_of_ble_eq_true rfl⟩ rfl rfl (Nat.le_of_ble_eq_true rfl) (Nat.le_of_ble_eq_true rfl) ⟨rfl, Nat.le_of_ble_eq_true rfl, Nat.le_of_ble_eq_true rfl⟩ hf (fun X z => ok_ck z) rfl (fun X z => T_X4_tallyHits z) (fun h1 hf => ?_)
      refine rn_iconst 20 dX4_trough_19 rfl ic_m1 ?_
      refine rn_istore_n (lv' := [(0, .ref (ad G o)), (1, .int x1), (2, .int (-1))]) 21 dX4_trough_20 rfl (Nat.le_of_ble_eq_true rfl) rfl ?_
      refine rn_iconst 22 dX4_trough_21 rfl ic_0 ?_
      refine rn_istore_n (lv' := [(0, .ref (ad G o)), (1, .int x1), (2, .int (-1)), (3, .int 0)]) 23 dX4_trough_22 rfl (Nat.le_of_ble_eq_true rfl) rfl ?_
      refine rn_iconst 24 dX4_trough_23 rfl ic_0 ?_
      refine rn_istore (lv' := [(0, .ref (ad G o)), (1, .int x1), (2, .int (-1)), (3, .int 0), (4, .int 0)]) 26 dX4_trough_24 rfl (Nat.le_of_ble_eq_true rfl) rfl ?_
      refine TL_X4_trough_26 ?_ FU _ _ _ hf
      intro y8 y9 y10 hf
      refine rn_iload_n 97 dX4_trough_96 rfl rfl ?_
      exact rn_iret .int dX4_trough_97 rfl rfl (Or.inl rfl) (ok_some hf :)
    · refine rn_bipush 13 dX4_trough_11 rfl bp_m3 ?_
      exact rn_iret .int dX4_trough_13 rfl rfl (Or.inl rfl) (ok_some hf :)
theorem TL_X5_rightsOfAll_4 {G : WG} {post : PO} {β : Type} {P : β → Prop} {h : AH} {o0 : Nat} {o1 : Nat} {k : Int32 → Int32 → Option (β)} (hk : ∀ (x2 : Int32) (x3 : Int32), OkA (k x2 x3) P → Rn G M_X5_rightsOfAll (0, 0) 24 [(0, .ref (ad G o0)), (1, .ref (ad G o1)), (2, .int x2), (3, .int x3)] [] h post) : ∀ (n : Nat) (x2 : Int32) (x3 : Int32), OkA (L_X5_rightsOfAll_4 h o0 o1 k n x2 x3) P → Rn G M_X5_rightsOfAll (0, 0) 4 [(0, .ref (ad G o0)), (1, .ref (ad G o1)), (2, .int x2), (3, .int x3)] [] h post := by
  intro n
  induction n with
  | zero => intro _ _ hf; exact absurd hf ok_none
  | succ n ih =>
    intro x2 x3 hf
    refine rn_iload_n 5 dX5_rightsOfAll_4 rfl rfl ?_
    refine rn_iconst 6 dX5_rightsOfAll_5 rfl ic_5 ?_
    refine ro_icmp_ge 24 9 dX5_rightsOfAll_6 rfl rfl hf (fun hf => ?_) (fun hf => ?_)
    · exact hk _ _ hf
    · refine rn_iload_n 10 dX5_rightsOfAll_9 rfl rfl ?_
      refine rn_aload_n 11 dX5_rightsOfAll_10 rfl rfl ?_
      refine rn_bipush 13 dX5_rightsOfAll_11 rfl bp_39 ?_
      refine rn_iload_n 14 dX5_rightsOfAll_13 rfl rfl ?_
      refine rn_iadd 15 dX5_rightsOfAll_14 rfl ?_
      refine ro_iaload 16 dX5_rightsOfAll_15 rfl hf (fun v1 hf => ?_)
      refine rn_iadd 17 dX5_rightsOfAll_16 rfl ?_
      refine rn_istore_n (lv' := [(0, .ref (ad G o0)), (1, .ref (ad G o1)), (2, .int (x2 + v1)), (3, .int x3)]) 18 dX5_rightsOfAll_17 rfl (Nat.le_of_ble_eq_true rfl) rfl ?_
      refine rn_iinc (lv' := [(0, .ref (ad G o0)), (1, .ref (ad G o1)), (2, .int (x2 + v1)), (3, .int (x3 + 1))]) 21 dX5_rightsOfAll_18 rfl (Nat.le_of_ble_eq_true rfl) rfl (inc_1 _) rfl ?_
      refine rn_goto 4 dX5_rightsOfAll_21 rfl ?_
      exact ih _ _ hf
theorem T_X5_rightsOfAll {G : WG} {post : PO} {h : AH} {o : Nat} {o1 : Nat} (hf : OkA (F_X5_rightsOfAll h o o1) (fun q => post (some q) h)) : Rn G M_X5_rightsOfAll (0, 0) 0 [(0, .ref (ad G o)), (1, .ref (ad G o1))] [] h post := by
  obtain ⟨_, hf⟩ := ok_ck2 hf
  refine rn_iconst 1 dX5_rightsOfAll_0 rfl ic_0 ?_
  refine rn_istore_n (lv' := [(0, .ref (ad G o)), (1, .ref (ad G o1)), (2, .int 0)]) 2 dX5_rightsOfAll_1 rfl (Nat.le_of_ble_eq_true rfl) rfl ?_
  refine rn_iconst 3 dX5_rightsOfAll_2 rfl ic_0 ?_
  refine rn_istore_n (lv' := [(0, .ref (ad G o)), (1, .ref (ad G o1)), (2, .int 0), (3, .int 0)]) 4 dX5_rightsOfAll_3 rfl (Nat.le_of_ble_eq_true rfl) rfl ?_
  refine TL_X5_rightsOfAll_4 ?_ FU _ _ hf
  intro y2 y3 hf
  refine rn_iload_n 25 dX5_rightsOfAll_24 rfl rfl ?_
  exact rn_iret .int dX5_rightsOfAll_25 rfl rfl (Or.inl rfl) (ok_some hf :)
theorem TL_X5_trough_59 {G : WG} {post : PO} {β : Type} {P : β → Prop} {o0 : Nat} {x1 : Int32} {x4 : Int32} {k : AH → Int32 → Int32 → Int32 → Option (β)} (hk : ∀ (h : AH) (x2 : Int32) (x3 : Int32) (x5 : Int32), OkA (k h x2 x3 x5) P → Rn G M_X5_trough (0, 0) 138 [(0, .ref (ad G o0)), (1, .int x1), (2, .int x2), (3, .int x3), (4, .int x4), (5, .int x5)] [] h post) : ∀ (n : Nat) (h : AH) (x2 : Int32) (x3 : Int32) (x5 : Int32), OkA (L_X5_trough_59 o0 x1 x4 k n h x2 x3 x5) P → Rn G M_X5_trough (0, 0) 59 [(0, .ref (ad G o0)), (1, .int x1), (2, .int x2), (3, .int x3), (4, .int x4), (5, .int x5)] [] h post := by
  intro n
  induction n with
  | zero => intro _ _ _ _ hf; exact absurd hf ok_none
  | succ n ih =>
    intro h x2 x3 x5 hf
    refine rn_iload 61 dX5_trough_59 rfl rfl ?_
    refine rn_aload_n 62 dX5_trough_61 rfl rfl ?_
    refine ro_gtR 65 dX5_trough_62 rfl f_X5_7 ft_5_0 hf (fun r1 hf => ?_)
    refine rn_iconst 66 dX5_trough_65 rfl ic_0 ?_
    refine ro_iaload 67 dX5_trough_66 rfl hf (fun v2 hf => ?_)
    refine ro_icmp_ge 138 70 dX5_trough_67 rfl rfl hf (fun hf => ?_) (fun hf => ?_)
    · exact hk _ _ _ _ hf
    · refine rn_aload_n 71 dX5_trough_70 rfl rfl ?_
      refine ro_cVv (M' := M_X5_layAside) (As := []) (o := o0) (st := []) 74 (0, 0) dX5_trough_71 rfl l_X5_194 v_X5_layAside ⟨Nat.le_of_ble_eq_true rfl, Nat.le_of_ble_eq_true rfl⟩ rfl rfl (Nat.le_of_ble_eq_true rfl) (Nat.le_of_ble_eq_true rfl) ⟨rfl, Nat.le_of_ble_eq_true rfl, Nat.le_of_ble_eq_true rfl⟩ hf (fun X z => ok_ck z) rfl (fun X z => T_X5_layAside z) (fun h3 hf => ?_)
      refine rn_aload_n 75 dX5_trough_74 rfl rfl ?_
      refine ro_gtR 78 dX5_trough_75 rfl f_X5_44 ft_5_20 hf (fun r4 hf => ?_)
      refine rn_iload 80 dX5_trough_78 rfl rfl ?_
      refine rn_iload 82 dX5_trough_80 rfl rfl ?_
      refine ro_cSv (M' := M_X5_moves) (As := [.ref (ad G r4), .int x4, .int x5]) (st := []) 85 (0, 0) dX5_trough_82 rfl l_X5_185 v_X5_moves ⟨Nat.le_of_ble_eq_true rfl, Nat.le_of_ble_eq_true rfl⟩ rfl rfl (Nat.le_of_ble_eq_true rfl) (Nat.le_of_ble_eq_true rfl) ⟨rfl, Nat.le_of_ble_eq_true rfl, Nat.le_of_ble_eq_true rfl⟩ hf (fun X z => T_X5_moves z) (fun h5 hf => ?_)
      refine rn_aload_n 86 dX5_trough_85 rfl rfl ?_
      refine rn_iload_n 87 dX5_trough_86 rfl rfl ?_
      refine ro_cVv (M' := M_X5_go) (As := [.int x1]) (o := o0) (st := []) 90 (0, 0) dX5_trough_87 rfl l_X5_197 v_X5_go ⟨Nat.le_of_ble_eq_true rfl, Nat.le_of_ble_eq_true rfl⟩ rfl rfl (Nat.le_of_ble_eq_true rfl) (Nat.le_of_ble_eq_true rfl) ⟨rfl, Nat.le_of_ble_eq_true rfl, Nat.le_of_ble_eq_true rfl⟩ hf (fun X z => ok_ck z) rfl (fun X z => T_X5_go z) (fun h6 hf => ?_)
      refine rn_aload_n 91 dX5_trough_90 rfl rfl ?_
      refine rn_aload_n 92 dX5_trough_91 rfl rfl ?_
      refine ro_gtR 95 dX5_trough_92 rfl f_X5_44 ft_5_20 hf (fun r7 hf => ?_)
      refine ro_cVp (M' := M_X5_rightsOfAll) (As := [.ref (ad G r7)]) (o := o0) (st := []) 98 (0, 0) dX5_trough_95 rfl l_X5_203 v_X5_rightsOfAll ⟨Nat.le_of_ble_eq_true rfl, Nat.le_of_ble_eq_true rfl⟩ rfl rfl (Nat.le_of_ble_eq_true rfl) (Nat.le_of_ble_eq_true rfl) ⟨rfl, Nat.le_of_ble_eq_true rfl, Nat.le_of_ble_eq_true rfl⟩ hf (fun X z => ok_ck z) rfl (fun X z => T_X5_rightsOfAll z) (fun v8 hf => ?_)
      refine rn_istore (lv' := [(0, .ref (ad G o0)), (1, .int x1), (2, .int x2), (3, .int x3), (4, .int x4), (5, .int x5), (6, .int v8)]) 100 dX5_trough_98 rfl (Nat.le_of_ble_eq_true rfl) rfl ?_
      refine rn_iload 102 dX5_trough_100 rfl rfl ?_
      refine rn_iload_n 103 dX5_trough_102 rfl rfl ?_
      refine ro_reg (X := (fun q9 : Int32 => Rn G M_X5_trough (0, 0) 118 [(0, .ref (ad G o0)), (1, .int x1), (2, .int x2), (3, .int x3), (4, .int x4), (5, .int x5), (6, .int v8)] [.int q9] h6 post)) hf (fun q9 hf => ?_) (fun hf => ?_)
      · refine rn_istore_n (lv' := [(0, .ref (ad G o0)), (1, .int x1), (2, .int x2), (3, .int q9), (4, .int x4), (5, .int x5), (6, .int v8)]) 119 dX5_trough_118 rfl (Nat.le_of_ble_eq_true rfl) rfl ?_
        refine rn_iload 121 dX5_trough_119 rfl rfl ?_
        refine rn_iload_n 122 dX5_trough_121 rfl rfl ?_
        refine ro_reg (X := (fun q10 : Int32 => Rn G M_X5_trough (0, 0) 131 [(0, .ref (ad G o0)), (1, .int x1), (2, .int x2), (3, .int q9), (4, .int x4), (5, .int x5), (6, .int v8)] [.int q10] h6 post)) hf (fun q10 hf => ?_) (fun hf => ?_)
        · refine rn_istore_n (lv' := [(0, .ref (ad G o0)), (1, .int x1), (2, .int q10), (3, .int q9), (4, .int x4), (5, .int x5), (6, .int v8)]) 132 dX5_trough_131 rfl (Nat.le_of_ble_eq_true rfl) rfl ?_
          refine rn_iinc (lv' := [(0, .ref (ad G o0)), (1, .int x1), (2, .int q10), (3, .int q9), (4, .int x4), (5, .int (x5 + 1)), (6, .int v8)]) 135 dX5_trough_132 rfl (Nat.le_of_ble_eq_true rfl) rfl (inc_1 _) rfl ?_
          refine rn_goto 59 dX5_trough_135 rfl ?_
          refine rn_take (lv' := [(0, .ref (ad G o0)), (1, .int x1), (2, .int q10), (3, .int q9), (4, .int x4), (5, .int (x5 + 1))]) [0, 1, 2, 3, 4, 5] rfl ?_
          exact ih _ _ _ _ hf
        · refine ro_icmp_le 130 125 dX5_trough_122 rfl rfl hf (fun hf => ?_) (fun hf => ?_)
          · refine rn_iload_n 131 dX5_trough_130 rfl rfl ?_
            exact (ok_some hf :)
          · refine rn_iload 127 dX5_trough_125 rfl rfl ?_
            refine rn_goto 131 dX5_trough_127 rfl ?_
            exact (ok_some hf :)
      · refine ro_icmp_le 117 106 dX5_trough_103 rfl rfl hf (fun hf => ?_) (fun hf => ?_)
        · refine rn_iload_n 118 dX5_trough_117 rfl rfl ?_
          exact (ok_some hf :)
        · refine rn_bipush 108 dX5_trough_106 rfl bp_10 ?_
          refine rn_iload 110 dX5_trough_108 rfl rfl ?_
          refine rn_imul 111 dX5_trough_110 rfl ?_
          refine rn_iload 113 dX5_trough_111 rfl rfl ?_
          refine rn_iadd 114 dX5_trough_113 rfl ?_
          refine rn_goto 118 dX5_trough_114 rfl ?_
          exact (ok_some hf :)
theorem TL_X5_trough_42 {G : WG} {post : PO} {β : Type} {P : β → Prop} {o0 : Nat} {x1 : Int32} {k : AH → Int32 → Int32 → Int32 → Option (β)} (hk : ∀ (h : AH) (x2 : Int32) (x3 : Int32) (x4 : Int32), OkA (k h x2 x3 x4) P → Rn G M_X5_trough (0, 0) 144 [(0, .ref (ad G o0)), (1, .int x1), (2, .int x2), (3, .int x3), (4, .int x4)] [] h post) : ∀ (n : Nat) (h : AH) (x2 : Int32) (x3 : Int32) (x4 : Int32), OkA (L_X5_trough_42 o0 x1 k n h x2 x3 x4) P → Rn G M_X5_trough (0, 0) 42 [(0, .ref (ad G o0)), (1, .int x1), (2, .int x2), (3, .int x3), (4, .int x4)] [] h post := by
  intro n
  induction n with
  | zero => intro _ _ _ _ hf; exact absurd hf ok_none
  | succ n ih =>
    intro h x2 x3 x4 hf
    refine rn_iload 44 dX5_trough_42 rfl rfl ?_
    refine rn_aload_n 45 dX5_trough_44 rfl rfl ?_
    refine ro_gtR 48 dX5_trough_45 rfl f_X5_7 ft_5_0 hf (fun r1 hf => ?_)
    refine rn_iconst 49 dX5_trough_48 rfl ic_0 ?_
    refine ro_iaload 50 dX5_trough_49 rfl hf (fun v2 hf => ?_)
    refine ro_icmp_ge 144 53 dX5_trough_50 rfl rfl hf (fun hf => ?_) (fun hf => ?_)
    · exact hk _ _ _ _ hf
    · refine rn_iload 55 dX5_trough_53 rfl rfl ?_
      refine rn_iconst 56 dX5_trough_55 rfl ic_1 ?_
      refine rn_iadd 57 dX5_trough_56 rfl ?_
      refine rn_istore (lv' := [(0, .ref (ad G o0)), (1, .int x1), (2, .int x2), (3, .int x3), (4, .int x4), (5, .int (x4 + 1))]) 59 dX5_trough_57 rfl (Nat.le_of_ble_eq_true rfl) rfl ?_
      refine TL_X5_trough_59 ?_ FU _ _ _ _ hf
      intro h11 y12 y13 y14 hf
      refine rn_iinc (lv' := [(0, .ref (ad G o0)), (1, .int x1), (2, .int y12), (3, .int y13), (4, .int (x4 + 1)), (5, .int y14)]) 141 dX5_trough_138 rfl (Nat.le_of_ble_eq_true rfl) rfl (inc_1 _) rfl ?_
      refine rn_goto 42 dX5_trough_141 rfl ?_
      refine rn_take (lv' := [(0, .ref (ad G o0)), (1, .int x1), (2, .int y12), (3, .int y13), (4, .int (x4 + 1))]) [0, 1, 2, 3, 4] rfl ?_
      exact ih _ _ _ _ hf
theorem T_X5_trough {G : WG} {post : PO} {h : AH} {o : Nat} {x1 : Int32} (hf : OkA (F_X5_trough h o x1) (fun q => post (some q.1) q.2)) : Rn G M_X5_trough (0, 0) 0 [(0, .ref (ad G o)), (1, .int x1)] [] h post := by
  obtain ⟨_, hf⟩ := ok_ck2 hf
  refine rn_iload_n 1 dX5_trough_0 rfl rfl ?_
  refine rn_i2l 2 dX5_trough_1 rfl ?_
  refine rn_lconst 3 dX5_trough_2 rfl lc_1 ?_
  refine rn_ldc2 6 dX5_trough_3 rfl k_X5_201 ?_
  refine ro_cSp (M' := M_X5_in) (As := [.long x1.toInt64, .long 1, .long 20]) (st := []) 9 (0, 0) dX5_trough_6 rfl l_X5_63 v_X5_in ⟨Nat.le_of_ble_eq_true rfl, Nat.le_of_ble_eq_true rfl⟩ rfl rfl (Nat.le_of_ble_eq_true rfl) (Nat.le_of_ble_eq_true rfl) ⟨rfl, Nat.le_of_ble_eq_true rfl, Nat.le_of_ble_eq_true rfl⟩ hf (fun X z => T_X5_in z) (fun v1 hf => ?_)
  refine ro_if_ne 15 12 dX5_trough_9 rfl rfl hf (fun hf => ?_) (fun hf => ?_)
  · refine rn_aload_n 16 dX5_trough_15 rfl rfl ?_
    refine ro_cVv (M' := M_X5_asTold) (As := []) (o := o) (st := []) 19 (0, 0) dX5_trough_16 rfl l_X5_173 v_X5_asTold ⟨Nat.le_of_ble_eq_true rfl, Nat.le_of_ble_eq_true rfl⟩ rfl rfl (Nat.le_of_ble_eq_true rfl) (Nat.le_of_ble_eq_true rfl) ⟨rfl, Nat.le_of_ble_eq_true rfl, Nat.le_of_ble_eq_true rfl⟩ hf (fun X z => ok_ck z) rfl (fun X z => T_X5_asTold z) (fun h2 hf => ?_)
    refine rn_aload_n 20 dX5_trough_19 rfl rfl ?_
    refine ro_cVv (M' := M_X5_layAside) (As := []) (o := o) (st := []) 23 (0, 0) dX5_trough_20 rfl l_X5_194 v_X5_layAside ⟨Nat.le_of_ble_eq_true rfl, Nat.le_of_ble_eq_true rfl⟩ rfl rfl (Nat.le_of_ble_eq_true rfl) (Nat.le_of_ble_eq_true rfl) ⟨rfl, Nat.le_of_ble_eq_true rfl, Nat.le_of_ble_eq_true rfl⟩ hf (fun X z => ok_ck z) rfl (fun X z => T_X5_layAside z) (fun h3 hf => ?_)
    refine rn_aload_n 24 dX5_trough_23 rfl rfl ?_
    refine rn_iload_n 25 dX5_trough_24 rfl rfl ?_
    refine ro_cVv (M' := M_X5_go) (As := [.int x1]) (o := o) (st := []) 28 (0, 0) dX5_trough_25 rfl l_X5_197 v_X5_go ⟨Nat.le_of_ble_eq_true rfl, Nat.le_of_ble_eq_true rfl⟩ rfl rfl (Nat.le_of_ble_eq_true rfl) (Nat.le_of_ble_eq_true rfl) ⟨rfl, Nat.le_of_ble_eq_true rfl, Nat.le_of_ble_eq_true rfl⟩ hf (fun X z => ok_ck z) rfl (fun X z => T_X5_go z) (fun h4 hf => ?_)
    refine rn_aload_n 29 dX5_trough_28 rfl rfl ?_
    refine rn_aload_n 30 dX5_trough_29 rfl rfl ?_
    refine ro_gtR 33 dX5_trough_30 rfl f_X5_44 ft_5_20 hf (fun r5 hf => ?_)
    refine ro_cVp (M' := M_X5_rightsOfAll) (As := [.ref (ad G r5)]) (o := o) (st := []) 36 (0, 0) dX5_trough_33 rfl l_X5_203 v_X5_rightsOfAll ⟨Nat.le_of_ble_eq_true rfl, Nat.le_of_ble_eq_true rfl⟩ rfl rfl (Nat.le_of_ble_eq_true rfl) (Nat.le_of_ble_eq_true rfl) ⟨rfl, Nat.le_of_ble_eq_true rfl, Nat.le_of_ble_eq_true rfl⟩ hf (fun X z => ok_ck z) rfl (fun X z => T_X5_rightsOfAll z) (fun v6 hf => ?_)
    refine rn_istore_n (lv' := [(0, .ref (ad G o)), (1, .int x1), (2, .int v6)]) 37 dX5_trough_36 rfl (Nat.le_of_ble_eq_true rfl) rfl ?_
    refine rn_iconst 38 dX5_trough_37 rfl ic_m1 ?_
    refine rn_istore_n (lv' := [(0, .ref (ad G o)), (1, .int x1), (2, .int v6), (3, .int (-1))]) 39 dX5_trough_38 rfl (Nat.le_of_ble_eq_true rfl) rfl ?_
    refine rn_iconst 40 dX5_trough_39 rfl ic_0 ?_
    refine rn_istore (lv' := [(0, .ref (ad G o)), (1, .int x1), (2, .int v6), (3, .int (-1)), (4, .int 0)]) 42 dX5_trough_40 rfl (Nat.le_of_ble_eq_true rfl) rfl ?_
    refine TL_X5_trough_42 ?_ FU _ _ _ _ hf
    intro h15 y16 y17 y18 hf
    refine rn_iload_n 145 dX5_trough_144 rfl rfl ?_
    exact rn_iret .int dX5_trough_145 rfl rfl (Or.inl rfl) (ok_some hf :)
  · refine rn_bipush 14 dX5_trough_12 rfl bp_m3 ?_
    exact rn_iret .int dX5_trough_14 rfl rfl (Or.inl rfl) (ok_some hf :)
theorem TL_X4_warmth_21 {G : WG} {post : PO} {o0 : Nat} {x1 : Int32} {x2 : Int32} {k : AH → Int32 → Option (Int32 × AH)} (hk : ∀ (h : AH) (x3 : Int32), OkA (k h x3) (fun q => post (some q.1) q.2) → Rn G M_X4_warmth (0, 0) 80 [(0, .ref (ad G o0)), (1, .int x1), (2, .int x2), (3, .int x3)] [] h post) : ∀ (n : Nat) (h : AH) (x3 : Int32), OkA (L_X4_warmth_21 o0 x1 x2 k n h x3) (fun q => post (some q.1) q.2) → Rn G M_X4_warmth (0, 0) 21 [(0, .ref (ad G o0)), (1, .int x1), (2, .int x2), (3, .int x3)] [] h post := by
  intro n
  induction n with
  | zero => intro _ _ hf; exact absurd hf ok_none
  | succ n ih =>
    intro h x3 hf
    refine rn_iload_n 22 dX4_warmth_21 rfl rfl ?_
    refine rn_bipush 24 dX4_warmth_22 rfl bp_9 ?_
    refine ro_icmp_gt 80 27 dX4_warmth_24 rfl rfl hf (fun hf => ?_) (fun hf => ?_)
    · exact hk _ _ hf
    · refine rn_aload_n 28 dX4_warmth_27 rfl rfl ?_
      refine ro_gtR 31 dX4_warmth_28 rfl f_X4_33 ft_4_4 hf (fun r1 hf => ?_)
      refine rn_aload_n 32 dX4_warmth_31 rfl rfl ?_
      refine ro_gtR 35 dX4_warmth_32 rfl f_X4_29 ft_4_3 hf (fun r2 hf => ?_)
      refine ro_cVv (M' := M_X3_copyFrom) (As := [.ref (ad G r2)]) (o := r1) (st := []) 38 (0, 0) dX4_warmth_35 rfl l_X4_163 v_X3_copyFrom ⟨Nat.le_of_ble_eq_true rfl, Nat.le_of_ble_eq_true rfl⟩ rfl rfl (Nat.le_of_ble_eq_true rfl) (Nat.le_of_ble_eq_true rfl) ⟨rfl, Nat.le_of_ble_eq_true rfl, Nat.le_of_ble_eq_true rfl⟩ hf (fun X z => ok_ck z) rfl (fun X z => T_X3_copyFrom z) (fun h3 hf => ?_)
      refine rn_aload_n 39 dX4_warmth_38 rfl rfl ?_
      refine ro_gtR 42 dX4_warmth_39 rfl f_X4_33 ft_4_4 hf (fun r4 hf => ?_)
      refine ro_gtR 45 dX4_warmth_42 rfl f_X4_93 ft_3_1 hf (fun r5 hf => ?_)
      refine rn_iload_n 46 dX4_warmth_45 rfl rfl ?_
      refine rn_iload_n 47 dX4_warmth_46 rfl rfl ?_
      refine ro_iastore 48 dX4_warmth_47 rfl hf (fun h6 hf => ?_)
      refine rn_aload_n 49 dX4_warmth_48 rfl rfl ?_
      refine ro_gtR 52 dX4_warmth_49 rfl f_X4_33 ft_4_4 hf (fun r7 hf => ?_)
      refine rn_aload_n 53 dX4_warmth_52 rfl rfl ?_
      refine ro_gtR 56 dX4_warmth_53 rfl f_X4_19 ft_4_1 hf (fun r8 hf => ?_)
      refine ro_cVv (M' := M_X3_passDay) (As := [.ref (ad G r8)]) (o := r7) (st := []) 59 (0, 0) dX4_warmth_56 rfl l_X4_140 v_X3_passDay ⟨Nat.le_of_ble_eq_true rfl, Nat.le_of_ble_eq_true rfl⟩ rfl rfl (Nat.le_of_ble_eq_true rfl) (Nat.le_of_ble_eq_true rfl) ⟨rfl, Nat.le_of_ble_eq_true rfl, Nat.le_of_ble_eq_true rfl⟩ hf (fun X z => ok_ck z) rfl (fun X z => T_X3_passDay z) (fun h9 hf => ?_)
      refine rn_aload_n 60 dX4_warmth_59 rfl rfl ?_
      refine ro_gtR 63 dX4_warmth_60 rfl f_X4_33 ft_4_4 hf (fun r10 hf => ?_)
      refine ro_gtR 66 dX4_warmth_63 rfl f_X4_99 ft_3_2 hf (fun r11 hf => ?_)
      refine rn_iload_n 67 dX4_warmth_66 rfl rfl ?_
      refine ro_iaload 68 dX4_warmth_67 rfl hf (fun v12 hf => ?_)
      refine rn_iload_n 69 dX4_warmth_68 rfl rfl ?_
      refine ro_icmp_ne 74 72 dX4_warmth_69 rfl rfl hf (fun hf => ?_) (fun hf => ?_)
      · refine rn_iinc (lv' := [(0, .ref (ad G o0)), (1, .int x1), (2, .int x2), (3, .int (x3 + 1))]) 77 dX4_warmth_74 rfl (Nat.le_of_ble_eq_true rfl) rfl (inc_1 _) rfl ?_
        refine rn_goto 21 dX4_warmth_77 rfl ?_
        exact ih _ _ hf
      · refine rn_iload_n 73 dX4_warmth_72 rfl rfl ?_
        exact rn_iret .int dX4_warmth_73 rfl rfl (Or.inl rfl) (ok_some hf :)
theorem T_X4_warmth {G : WG} {post : PO} {h : AH} {o : Nat} {x1 : Int32} {x2 : Int32} (hf : OkA (F_X4_warmth h o x1 x2) (fun q => post (some q.1) q.2)) : Rn G M_X4_warmth (0, 0) 0 [(0, .ref (ad G o)), (1, .int x1), (2, .int x2)] [] h post := by
  obtain ⟨_, hf⟩ := ok_ck2 hf
  refine rn_aload_n 1 dX4_warmth_0 rfl rfl ?_
  refine rn_iload_n 2 dX4_warmth_1 rfl rfl ?_
  refine ro_cVp (M' := M_X4_isHen) (As := [.int x1]) (o := o) (st := []) 5 (0, 0) dX4_warmth_2 rfl l_X4_102 v_X4_isHen ⟨Nat.le_of_ble_eq_true rfl, Nat.le_of_ble_eq_true rfl⟩ rfl rfl (Nat.le_of_ble_eq_true rfl) (Nat.le_of_ble_eq_true rfl) ⟨rfl, Nat.le_of_ble_eq_true rfl, Nat.le_of_ble_eq_true rfl⟩ hf (fun X z => ok_ck z) rfl (fun X z => T_X4_isHen z) (fun v1 hf => ?_)
  refine ro_if_eq 16 8 dX4_warmth_5 rfl rfl hf (fun hf => ?_) (fun hf => ?_)
  · refine rn_bipush 18 dX4_warmth_16 rfl bp_m2 ?_
    exact rn_iret .int dX4_warmth_18 rfl rfl (Or.inl rfl) (ok_some hf :)
  · refine rn_aload_n 9 dX4_warmth_8 rfl rfl ?_
    refine rn_iload_n 10 dX4_warmth_9 rfl rfl ?_
    refine ro_cVp (M' := M_X4_isPlace) (As := [.int x2]) (o := o) (st := []) 13 (0, 0) dX4_warmth_10 rfl l_X4_86 v_X4_isPlace ⟨Nat.le_of_ble_eq_true rfl, Nat.le_of_ble_eq_true rfl⟩ rfl rfl (Nat.le_of_ble_eq_true rfl) (Nat.le_of_ble_eq_true rfl) ⟨rfl, Nat.le_of_ble_eq_true rfl, Nat.le_of_ble_eq_true rfl⟩ hf (fun X z => ok_ck z) rfl (fun X z => T_X4_isPlace z) (fun v2 hf => ?_)
    refine ro_if_ne 19 16 dX4_warmth_13 rfl rfl hf (fun hf => ?_) (fun hf => ?_)
    · refine rn_iconst 20 dX4_warmth_19 rfl ic_0 ?_
      refine rn_istore_n (lv' := [(0, .ref (ad G o)), (1, .int x1), (2, .int x2), (3, .int 0)]) 21 dX4_warmth_20 rfl (Nat.le_of_ble_eq_true rfl) rfl ?_
      refine TL_X4_warmth_21 ?_ FU _ _ hf
      intro h13 y14 hf
      refine rn_iconst 81 dX4_warmth_80 rfl ic_m1 ?_
      exact rn_iret .int dX4_warmth_81 rfl rfl (Or.inl rfl) (ok_some hf :)
    · refine rn_bipush 18 dX4_warmth_16 rfl bp_m2 ?_
      exact rn_iret .int dX4_warmth_18 rfl rfl (Or.inl rfl) (ok_some hf :)
theorem TL_X5_warmth_25 {G : WG} {post : PO} {o0 : Nat} {x1 : Int32} {x2 : Int32} {k : AH → Int32 → Option (Int32 × AH)} (hk : ∀ (h : AH) (x3 : Int32), OkA (k h x3) (fun q => post (some q.1) q.2) → Rn G M_X5_warmth (0, 0) 68 [(0, .ref (ad G o0)), (1, .int x1), (2, .int x2), (3, .int x3)] [] h post) : ∀ (n : Nat) (h : AH) (x3 : Int32), OkA (L_X5_warmth_25 o0 x1 x2 k n h x3) (fun q => post (some q.1) q.2) → Rn G M_X5_warmth (0, 0) 25 [(0, .ref (ad G o0)), (1, .int x1), (2, .int x2), (3, .int x3)] [] h post := by
  intro n
  induction n with
  | zero => intro _ _ hf; exact absurd hf ok_none
  | succ n ih =>
    intro h x3 hf
    refine rn_iload_n 26 dX5_warmth_25 rfl rfl ?_
    refine rn_bipush 28 dX5_warmth_26 rfl bp_10 ?_
    refine ro_icmp_ge 68 31 dX5_warmth_28 rfl rfl hf (fun hf => ?_) (fun hf => ?_)
    · exact hk _ _ hf
    · refine rn_aload_n 32 dX5_warmth_31 rfl rfl ?_
      refine ro_cVv (M' := M_X5_layAside) (As := []) (o := o0) (st := []) 35 (0, 0) dX5_warmth_32 rfl l_X5_194 v_X5_layAside ⟨Nat.le_of_ble_eq_true rfl, Nat.le_of_ble_eq_true rfl⟩ rfl rfl (Nat.le_of_ble_eq_true rfl) (Nat.le_of_ble_eq_true rfl) ⟨rfl, Nat.le_of_ble_eq_true rfl, Nat.le_of_ble_eq_true rfl⟩ hf (fun X z => ok_ck z) rfl (fun X z => T_X5_layAside z) (fun h1 hf => ?_)
      refine rn_aload_n 36 dX5_warmth_35 rfl rfl ?_
      refine ro_gtR 39 dX5_warmth_36 rfl f_X5_44 ft_5_20 hf (fun r2 hf => ?_)
      refine rn_bipush 41 dX5_warmth_39 rfl bp_10 ?_
      refine rn_iload_n 42 dX5_warmth_41 rfl rfl ?_
      refine rn_iadd 43 dX5_warmth_42 rfl ?_
      refine rn_iload_n 44 dX5_warmth_43 rfl rfl ?_
      refine ro_iastore 45 dX5_warmth_44 rfl hf (fun h3 hf => ?_)
      refine rn_aload_n 46 dX5_warmth_45 rfl rfl ?_
      refine rn_iconst 47 dX5_warmth_46 rfl ic_1 ?_
      refine ro_cVv (M' := M_X5_go) (As := [.int 1]) (o := o0) (st := []) 50 (0, 0) dX5_warmth_47 rfl l_X5_197 v_X5_go ⟨Nat.le_of_ble_eq_true rfl, Nat.le_of_ble_eq_true rfl⟩ rfl rfl (Nat.le_of_ble_eq_true rfl) (Nat.le_of_ble_eq_true rfl) ⟨rfl, Nat.le_of_ble_eq_true rfl, Nat.le_of_ble_eq_true rfl⟩ hf (fun X z => ok_ck z) rfl (fun X z => T_X5_go z) (fun h4 hf => ?_)
      refine rn_aload_n 51 dX5_warmth_50 rfl rfl ?_
      refine ro_gtR 54 dX5_warmth_51 rfl f_X5_41 ft_5_19 hf (fun r5 hf => ?_)
      refine rn_iload_n 55 dX5_warmth_54 rfl rfl ?_
      refine ro_iaload 56 dX5_warmth_55 rfl hf (fun v6 hf => ?_)
      refine rn_iload_n 57 dX5_warmth_56 rfl rfl ?_
      refine ro_icmp_ne 62 60 dX5_warmth_57 rfl rfl hf (fun hf => ?_) (fun hf => ?_)
      · refine rn_iinc (lv' := [(0, .ref (ad G o0)), (1, .int x1), (2, .int x2), (3, .int (x3 + 1))]) 65 dX5_warmth_62 rfl (Nat.le_of_ble_eq_true rfl) rfl (inc_1 _) rfl ?_
        refine rn_goto 25 dX5_warmth_65 rfl ?_
        exact ih _ _ hf
      · refine rn_iload_n 61 dX5_warmth_60 rfl rfl ?_
        exact rn_iret .int dX5_warmth_61 rfl rfl (Or.inl rfl) (ok_some hf :)
theorem T_X5_warmth {G : WG} {post : PO} {h : AH} {o : Nat} {x1 : Int32} {x2 : Int32} (hf : OkA (F_X5_warmth h o x1 x2) (fun q => post (some q.1) q.2)) : Rn G M_X5_warmth (0, 0) 0 [(0, .ref (ad G o)), (1, .int x1), (2, .int x2)] [] h post := by
  obtain ⟨_, hf⟩ := ok_ck2 hf
  refine rn_aload_n 1 dX5_warmth_0 rfl rfl ?_
  refine rn_iload_n 2 dX5_warmth_1 rfl rfl ?_
  refine ro_cVp (M' := M_X5_isHen) (As := [.int x1]) (o := o) (st := []) 5 (0, 0) dX5_warmth_2 rfl l_X5_166 v_X5_isHen ⟨Nat.le_of_ble_eq_true rfl, Nat.le_of_ble_eq_true rfl⟩ rfl rfl (Nat.le_of_ble_eq_true rfl) (Nat.le_of_ble_eq_true rfl) ⟨rfl, Nat.le_of_ble_eq_true rfl, Nat.le_of_ble_eq_true rfl⟩ hf (fun X z => ok_ck z) rfl (fun X z => T_X5_isHen z) (fun v1 hf => ?_)
  refine ro_if_eq 16 8 dX5_warmth_5 rfl rfl hf (fun hf => ?_) (fun hf => ?_)
  · refine rn_bipush 18 dX5_warmth_16 rfl bp_m2 ?_
    exact rn_iret .int dX5_warmth_18 rfl rfl (Or.inl rfl) (ok_some hf :)
  · refine rn_aload_n 9 dX5_warmth_8 rfl rfl ?_
    refine rn_iload_n 10 dX5_warmth_9 rfl rfl ?_
    refine ro_cVp (M' := M_X5_isPlace) (As := [.int x2]) (o := o) (st := []) 13 (0, 0) dX5_warmth_10 rfl l_X5_163 v_X5_isPlace ⟨Nat.le_of_ble_eq_true rfl, Nat.le_of_ble_eq_true rfl⟩ rfl rfl (Nat.le_of_ble_eq_true rfl) (Nat.le_of_ble_eq_true rfl) ⟨rfl, Nat.le_of_ble_eq_true rfl, Nat.le_of_ble_eq_true rfl⟩ hf (fun X z => ok_ck z) rfl (fun X z => T_X5_isPlace z) (fun v2 hf => ?_)
    refine ro_if_ne 19 16 dX5_warmth_13 rfl rfl hf (fun hf => ?_) (fun hf => ?_)
    · refine rn_aload_n 20 dX5_warmth_19 rfl rfl ?_
      refine ro_cVv (M' := M_X5_asTold) (As := []) (o := o) (st := []) 23 (0, 0) dX5_warmth_20 rfl l_X5_173 v_X5_asTold ⟨Nat.le_of_ble_eq_true rfl, Nat.le_of_ble_eq_true rfl⟩ rfl rfl (Nat.le_of_ble_eq_true rfl) (Nat.le_of_ble_eq_true rfl) ⟨rfl, Nat.le_of_ble_eq_true rfl, Nat.le_of_ble_eq_true rfl⟩ hf (fun X z => ok_ck z) rfl (fun X z => T_X5_asTold z) (fun h3 hf => ?_)
      refine rn_iconst 24 dX5_warmth_23 rfl ic_0 ?_
      refine rn_istore_n (lv' := [(0, .ref (ad G o)), (1, .int x1), (2, .int x2), (3, .int 0)]) 25 dX5_warmth_24 rfl (Nat.le_of_ble_eq_true rfl) rfl ?_
      refine TL_X5_warmth_25 ?_ FU _ _ hf
      intro h7 y8 hf
      refine rn_iconst 69 dX5_warmth_68 rfl ic_m1 ?_
      exact rn_iret .int dX5_warmth_69 rfl rfl (Or.inl rfl) (ok_some hf :)
    · refine rn_bipush 18 dX5_warmth_16 rfl bp_m2 ?_
      exact rn_iret .int dX5_warmth_18 rfl rfl (Or.inl rfl) (ok_some hf :)
theorem T_X0_add {G : WG} {post : PO} {h : AH} {o : Nat} {x1 : Int32} {x2 : Int32} {x3 : Int32} (hf : OkA (F_X0_add h o x1 x2 x3) (fun q => post none q)) : Rn G M_X0_add (0, 0) 0 [(0, .ref (ad G o)), (1, .int x1), (2, .int x2), (3, .int x3)] [] h post := by
  obtain ⟨_, hf⟩ := ok_ck2 hf
  refine rn_aload_n 1 dX0_add_0 rfl rfl ?_
  refine ro_gtI 4 dX0_add_1 rfl f_X0_21 ft_0_3 hf (fun v1 hf => ?_)
  refine rn_bipush 6 dX0_add_4 rfl bp_6 ?_
  refine ro_icmp_lt 10 9 dX0_add_6 rfl rfl hf (fun hf => ?_) (fun hf => ?_)
  · refine rn_aload_n 11 dX0_add_10 rfl rfl ?_
    refine ro_gtR 14 dX0_add_11 rfl f_X0_9 ft_0_0 hf (fun r2 hf => ?_)
    refine rn_aload_n 15 dX0_add_14 rfl rfl ?_
    refine ro_gtI 18 dX0_add_15 rfl f_X0_21 ft_0_3 hf (fun v3 hf => ?_)
    refine rn_iload_n 19 dX0_add_18 rfl rfl ?_
    refine ro_iastore 20 dX0_add_19 rfl hf (fun h4 hf => ?_)
    refine rn_aload_n 21 dX0_add_20 rfl rfl ?_
    refine ro_gtR 24 dX0_add_21 rfl f_X0_15 ft_0_1 hf (fun r5 hf => ?_)
    refine rn_aload_n 25 dX0_add_24 rfl rfl ?_
    refine ro_gtI 28 dX0_add_25 rfl f_X0_21 ft_0_3 hf (fun v6 hf => ?_)
    refine rn_iload_n 29 dX0_add_28 rfl rfl ?_
    refine ro_iastore 30 dX0_add_29 rfl hf (fun h7 hf => ?_)
    refine rn_aload_n 31 dX0_add_30 rfl rfl ?_
    refine ro_gtR 34 dX0_add_31 rfl f_X0_18 ft_0_2 hf (fun r8 hf => ?_)
    refine rn_aload_n 35 dX0_add_34 rfl rfl ?_
    refine ro_gtI 38 dX0_add_35 rfl f_X0_21 ft_0_3 hf (fun v9 hf => ?_)
    refine rn_iload_n 39 dX0_add_38 rfl rfl ?_
    refine ro_iastore 40 dX0_add_39 rfl hf (fun h10 hf => ?_)
    refine rn_aload_n 41 dX0_add_40 rfl rfl ?_
    refine rn_dup 42 dX0_add_41 rfl rfl ?_
    refine ro_gtI 45 dX0_add_42 rfl f_X0_21 ft_0_3 hf (fun v11 hf => ?_)
    refine rn_iconst 46 dX0_add_45 rfl ic_1 ?_
    refine rn_iadd 47 dX0_add_46 rfl ?_
    refine ro_ptI 50 dX0_add_47 rfl f_X0_21 pn_0_3 ft_0_3 rfl rfl hf (fun h12 hf => ?_)
    exact rn_vret dX0_add_50 rfl (Or.inl rfl) (ok_some hf :)
  · exact rn_vret dX0_add_9 rfl (Or.inl rfl) (ok_some hf :)
theorem T_X4_seen {G : WG} {post : PO} {h : AH} {o : Nat} {x1 : Int32} {x2 : Int32} {x3 : Int32} (hf : OkA (F_X4_seen h o x1 x2 x3) (fun q => post (some q.1) q.2)) : Rn G M_X4_seen (0, 0) 0 [(0, .ref (ad G o)), (1, .int x1), (2, .int x2), (3, .int x3)] [] h post := by
  obtain ⟨_, hf⟩ := ok_ck2 hf
  refine rn_aload_n 1 dX4_seen_0 rfl rfl ?_
  refine rn_iload_n 2 dX4_seen_1 rfl rfl ?_
  refine ro_cVp (M' := M_X4_isHen) (As := [.int x1]) (o := o) (st := []) 5 (0, 0) dX4_seen_2 rfl l_X4_102 v_X4_isHen ⟨Nat.le_of_ble_eq_true rfl, Nat.le_of_ble_eq_true rfl⟩ rfl rfl (Nat.le_of_ble_eq_true rfl) (Nat.le_of_ble_eq_true rfl) ⟨rfl, Nat.le_of_ble_eq_true rfl, Nat.le_of_ble_eq_true rfl⟩ hf (fun X z => ok_ck z) rfl (fun X z => T_X4_isHen z) (fun v1 hf => ?_)
  refine ro_if_eq 21 8 dX4_seen_5 rfl rfl hf (fun hf => ?_) (fun hf => ?_)
  · refine rn_bipush 23 dX4_seen_21 rfl bp_m2 ?_
    exact rn_iret .int dX4_seen_23 rfl rfl (Or.inl rfl) (ok_some hf :)
  · refine rn_iload_n 9 dX4_seen_8 rfl rfl ?_
    refine rn_iconst 10 dX4_seen_9 rfl ic_m1 ?_
    refine ro_icmp_eq 24 13 dX4_seen_10 rfl rfl hf (fun hf => ?_) (fun hf => ?_)
    · refine rn_iload_n 25 dX4_seen_24 rfl rfl ?_
      refine rn_iconst 26 dX4_seen_25 rfl ic_1 ?_
      refine ro_icmp_lt 35 29 dX4_seen_26 rfl rfl hf (fun hf => ?_) (fun hf => ?_)
      · refine rn_bipush 37 dX4_seen_35 rfl bp_m3 ?_
        exact rn_iret .int dX4_seen_37 rfl rfl (Or.inl rfl) (ok_some hf :)
      · refine rn_iload_n 30 dX4_seen_29 rfl rfl ?_
        refine rn_bipush 32 dX4_seen_30 rfl bp_14 ?_
        refine ro_icmp_le 38 35 dX4_seen_32 rfl rfl hf (fun hf => ?_) (fun hf => ?_)
        · refine rn_aload_n 39 dX4_seen_38 rfl rfl ?_
          refine ro_gtR 42 dX4_seen_39 rfl f_X4_50 ft_4_9 hf (fun r2 hf => ?_)
          refine ro_gtI 45 dX4_seen_42 rfl f_X4_77 ft_0_3 hf (fun v3 hf => ?_)
          refine rn_bipush 47 dX4_seen_45 rfl bp_6 ?_
          refine ro_icmp_lt 53 50 dX4_seen_47 rfl rfl hf (fun hf => ?_) (fun hf => ?_)
          · refine rn_aload_n 54 dX4_seen_53 rfl rfl ?_
            refine ro_gtR 57 dX4_seen_54 rfl f_X4_50 ft_4_9 hf (fun r4 hf => ?_)
            refine rn_iload_n 58 dX4_seen_57 rfl rfl ?_
            refine rn_iload_n 59 dX4_seen_58 rfl rfl ?_
            refine rn_iload_n 60 dX4_seen_59 rfl rfl ?_
            refine ro_cVv (M' := M_X0_add) (As := [.int x1, .int x2, .int x3]) (o := r4) (st := []) 63 (0, 0) dX4_seen_60 rfl l_X4_187 v_X0_add ⟨Nat.le_of_ble_eq_true rfl, Nat.le_of_ble_eq_true rfl⟩ rfl rfl (Nat.le_of_ble_eq_true rfl) (Nat.le_of_ble_eq_true rfl) ⟨rfl, Nat.le_of_ble_eq_true rfl, Nat.le_of_ble_eq_true rfl⟩ hf (fun X z => ok_ck z) rfl (fun X z => T_X0_add z) (fun h5 hf => ?_)
            refine rn_aload_n 64 dX4_seen_63 rfl rfl ?_
            refine ro_gtR 67 dX4_seen_64 rfl f_X4_50 ft_4_9 hf (fun r6 hf => ?_)
            refine ro_gtI 70 dX4_seen_67 rfl f_X4_77 ft_0_3 hf (fun v7 hf => ?_)
            exact rn_iret .int dX4_seen_70 rfl rfl (Or.inl rfl) (ok_some hf :)
          · refine rn_bipush 52 dX4_seen_50 rfl bp_m5 ?_
            exact rn_iret .int dX4_seen_52 rfl rfl (Or.inl rfl) (ok_some hf :)
        · refine rn_bipush 37 dX4_seen_35 rfl bp_m3 ?_
          exact rn_iret .int dX4_seen_37 rfl rfl (Or.inl rfl) (ok_some hf :)
    · refine rn_aload_n 14 dX4_seen_13 rfl rfl ?_
      refine rn_iload_n 15 dX4_seen_14 rfl rfl ?_
      refine ro_cVp (M' := M_X4_isPlace) (As := [.int x3]) (o := o) (st := []) 18 (0, 0) dX4_seen_15 rfl l_X4_86 v_X4_isPlace ⟨Nat.le_of_ble_eq_true rfl, Nat.le_of_ble_eq_true rfl⟩ rfl rfl (Nat.le_of_ble_eq_true rfl) (Nat.le_of_ble_eq_true rfl) ⟨rfl, Nat.le_of_ble_eq_true rfl, Nat.le_of_ble_eq_true rfl⟩ hf (fun X z => ok_ck z) rfl (fun X z => T_X4_isPlace z) (fun v8 hf => ?_)
      refine ro_if_ne 24 21 dX4_seen_18 rfl rfl hf (fun hf => ?_) (fun hf => ?_)
      · refine rn_iload_n 25 dX4_seen_24 rfl rfl ?_
        refine rn_iconst 26 dX4_seen_25 rfl ic_1 ?_
        refine ro_icmp_lt 35 29 dX4_seen_26 rfl rfl hf (fun hf => ?_) (fun hf => ?_)
        · refine rn_bipush 37 dX4_seen_35 rfl bp_m3 ?_
          exact rn_iret .int dX4_seen_37 rfl rfl (Or.inl rfl) (ok_some hf :)
        · refine rn_iload_n 30 dX4_seen_29 rfl rfl ?_
          refine rn_bipush 32 dX4_seen_30 rfl bp_14 ?_
          refine ro_icmp_le 38 35 dX4_seen_32 rfl rfl hf (fun hf => ?_) (fun hf => ?_)
          · refine rn_aload_n 39 dX4_seen_38 rfl rfl ?_
            refine ro_gtR 42 dX4_seen_39 rfl f_X4_50 ft_4_9 hf (fun r9 hf => ?_)
            refine ro_gtI 45 dX4_seen_42 rfl f_X4_77 ft_0_3 hf (fun v10 hf => ?_)
            refine rn_bipush 47 dX4_seen_45 rfl bp_6 ?_
            refine ro_icmp_lt 53 50 dX4_seen_47 rfl rfl hf (fun hf => ?_) (fun hf => ?_)
            · refine rn_aload_n 54 dX4_seen_53 rfl rfl ?_
              refine ro_gtR 57 dX4_seen_54 rfl f_X4_50 ft_4_9 hf (fun r11 hf => ?_)
              refine rn_iload_n 58 dX4_seen_57 rfl rfl ?_
              refine rn_iload_n 59 dX4_seen_58 rfl rfl ?_
              refine rn_iload_n 60 dX4_seen_59 rfl rfl ?_
              refine ro_cVv (M' := M_X0_add) (As := [.int x1, .int x2, .int x3]) (o := r11) (st := []) 63 (0, 0) dX4_seen_60 rfl l_X4_187 v_X0_add ⟨Nat.le_of_ble_eq_true rfl, Nat.le_of_ble_eq_true rfl⟩ rfl rfl (Nat.le_of_ble_eq_true rfl) (Nat.le_of_ble_eq_true rfl) ⟨rfl, Nat.le_of_ble_eq_true rfl, Nat.le_of_ble_eq_true rfl⟩ hf (fun X z => ok_ck z) rfl (fun X z => T_X0_add z) (fun h12 hf => ?_)
              refine rn_aload_n 64 dX4_seen_63 rfl rfl ?_
              refine ro_gtR 67 dX4_seen_64 rfl f_X4_50 ft_4_9 hf (fun r13 hf => ?_)
              refine ro_gtI 70 dX4_seen_67 rfl f_X4_77 ft_0_3 hf (fun v14 hf => ?_)
              exact rn_iret .int dX4_seen_70 rfl rfl (Or.inl rfl) (ok_some hf :)
            · refine rn_bipush 52 dX4_seen_50 rfl bp_m5 ?_
              exact rn_iret .int dX4_seen_52 rfl rfl (Or.inl rfl) (ok_some hf :)
          · refine rn_bipush 37 dX4_seen_35 rfl bp_m3 ?_
            exact rn_iret .int dX4_seen_37 rfl rfl (Or.inl rfl) (ok_some hf :)
      · refine rn_bipush 23 dX4_seen_21 rfl bp_m2 ?_
        exact rn_iret .int dX4_seen_23 rfl rfl (Or.inl rfl) (ok_some hf :)
theorem T_X5_seen {G : WG} {post : PO} {h : AH} {o : Nat} {x1 : Int32} {x2 : Int32} {x3 : Int32} (hf : OkA (F_X5_seen h o x1 x2 x3) (fun q => post (some q.1) q.2)) : Rn G M_X5_seen (0, 0) 0 [(0, .ref (ad G o)), (1, .int x1), (2, .int x2), (3, .int x3)] [] h post := by
  obtain ⟨_, hf⟩ := ok_ck2 hf
  refine rn_aload_n 1 dX5_seen_0 rfl rfl ?_
  refine rn_iload_n 2 dX5_seen_1 rfl rfl ?_
  refine ro_cVp (M' := M_X5_isHen) (As := [.int x1]) (o := o) (st := []) 5 (0, 0) dX5_seen_2 rfl l_X5_166 v_X5_isHen ⟨Nat.le_of_ble_eq_true rfl, Nat.le_of_ble_eq_true rfl⟩ rfl rfl (Nat.le_of_ble_eq_true rfl) (Nat.le_of_ble_eq_true rfl) ⟨rfl, Nat.le_of_ble_eq_true rfl, Nat.le_of_ble_eq_true rfl⟩ hf (fun X z => ok_ck z) rfl (fun X z => T_X5_isHen z) (fun v1 hf => ?_)
  refine ro_if_eq 21 8 dX5_seen_5 rfl rfl hf (fun hf => ?_) (fun hf => ?_)
  · refine rn_bipush 23 dX5_seen_21 rfl bp_m2 ?_
    exact rn_iret .int dX5_seen_23 rfl rfl (Or.inl rfl) (ok_some hf :)
  · refine rn_iload_n 9 dX5_seen_8 rfl rfl ?_
    refine rn_iconst 10 dX5_seen_9 rfl ic_m1 ?_
    refine ro_icmp_eq 24 13 dX5_seen_10 rfl rfl hf (fun hf => ?_) (fun hf => ?_)
    · refine rn_iload_n 25 dX5_seen_24 rfl rfl ?_
      refine rn_i2l 26 dX5_seen_25 rfl ?_
      refine rn_lconst 27 dX5_seen_26 rfl lc_1 ?_
      refine rn_ldc2 30 dX5_seen_27 rfl k_X5_206 ?_
      refine ro_cSp (M' := M_X5_in) (As := [.long x2.toInt64, .long 1, .long 14]) (st := []) 33 (0, 0) dX5_seen_30 rfl l_X5_63 v_X5_in ⟨Nat.le_of_ble_eq_true rfl, Nat.le_of_ble_eq_true rfl⟩ rfl rfl (Nat.le_of_ble_eq_true rfl) (Nat.le_of_ble_eq_true rfl) ⟨rfl, Nat.le_of_ble_eq_true rfl, Nat.le_of_ble_eq_true rfl⟩ hf (fun X z => T_X5_in z) (fun v2 hf => ?_)
      refine ro_if_ne 39 36 dX5_seen_33 rfl rfl hf (fun hf => ?_) (fun hf => ?_)
      · refine rn_aload_n 40 dX5_seen_39 rfl rfl ?_
        refine ro_gtI 43 dX5_seen_40 rfl f_X5_58 ft_5_10 hf (fun v3 hf => ?_)
        refine rn_bipush 45 dX5_seen_43 rfl bp_6 ?_
        refine ro_icmp_ne 51 48 dX5_seen_45 rfl rfl hf (fun hf => ?_) (fun hf => ?_)
        · refine rn_aload_n 52 dX5_seen_51 rfl rfl ?_
          refine ro_gtR 55 dX5_seen_52 rfl f_X5_32 ft_5_9 hf (fun r4 hf => ?_)
          refine rn_iconst 56 dX5_seen_55 rfl ic_3 ?_
          refine rn_aload_n 57 dX5_seen_56 rfl rfl ?_
          refine ro_gtI 60 dX5_seen_57 rfl f_X5_58 ft_5_10 hf (fun v5 hf => ?_)
          refine rn_imul 61 dX5_seen_60 rfl ?_
          refine rn_iload_n 62 dX5_seen_61 rfl rfl ?_
          refine ro_iastore 63 dX5_seen_62 rfl hf (fun h6 hf => ?_)
          refine rn_aload_n 64 dX5_seen_63 rfl rfl ?_
          refine ro_gtR 67 dX5_seen_64 rfl f_X5_32 ft_5_9 hf (fun r7 hf => ?_)
          refine rn_iconst 68 dX5_seen_67 rfl ic_3 ?_
          refine rn_aload_n 69 dX5_seen_68 rfl rfl ?_
          refine ro_gtI 72 dX5_seen_69 rfl f_X5_58 ft_5_10 hf (fun v8 hf => ?_)
          refine rn_imul 73 dX5_seen_72 rfl ?_
          refine rn_iconst 74 dX5_seen_73 rfl ic_1 ?_
          refine rn_iadd 75 dX5_seen_74 rfl ?_
          refine rn_iload_n 76 dX5_seen_75 rfl rfl ?_
          refine ro_iastore 77 dX5_seen_76 rfl hf (fun h9 hf => ?_)
          refine rn_aload_n 78 dX5_seen_77 rfl rfl ?_
          refine ro_gtR 81 dX5_seen_78 rfl f_X5_32 ft_5_9 hf (fun r10 hf => ?_)
          refine rn_iconst 82 dX5_seen_81 rfl ic_3 ?_
          refine rn_aload_n 83 dX5_seen_82 rfl rfl ?_
          refine ro_gtI 86 dX5_seen_83 rfl f_X5_58 ft_5_10 hf (fun v11 hf => ?_)
          refine rn_imul 87 dX5_seen_86 rfl ?_
          refine rn_iconst 88 dX5_seen_87 rfl ic_2 ?_
          refine rn_iadd 89 dX5_seen_88 rfl ?_
          refine rn_iload_n 90 dX5_seen_89 rfl rfl ?_
          refine ro_iastore 91 dX5_seen_90 rfl hf (fun h12 hf => ?_)
          refine rn_aload_n 92 dX5_seen_91 rfl rfl ?_
          refine rn_dup 93 dX5_seen_92 rfl rfl ?_
          refine ro_gtI 96 dX5_seen_93 rfl f_X5_58 ft_5_10 hf (fun v13 hf => ?_)
          refine rn_iconst 97 dX5_seen_96 rfl ic_1 ?_
          refine rn_iadd 98 dX5_seen_97 rfl ?_
          refine ro_ptI 101 dX5_seen_98 rfl f_X5_58 pn_5_10 ft_5_10 rfl rfl hf (fun h14 hf => ?_)
          refine rn_aload_n 102 dX5_seen_101 rfl rfl ?_
          refine ro_gtI 105 dX5_seen_102 rfl f_X5_58 ft_5_10 hf (fun v15 hf => ?_)
          exact rn_iret .int dX5_seen_105 rfl rfl (Or.inl rfl) (ok_some hf :)
        · refine rn_bipush 50 dX5_seen_48 rfl bp_m5 ?_
          exact rn_iret .int dX5_seen_50 rfl rfl (Or.inl rfl) (ok_some hf :)
      · refine rn_bipush 38 dX5_seen_36 rfl bp_m3 ?_
        exact rn_iret .int dX5_seen_38 rfl rfl (Or.inl rfl) (ok_some hf :)
    · refine rn_aload_n 14 dX5_seen_13 rfl rfl ?_
      refine rn_iload_n 15 dX5_seen_14 rfl rfl ?_
      refine ro_cVp (M' := M_X5_isPlace) (As := [.int x3]) (o := o) (st := []) 18 (0, 0) dX5_seen_15 rfl l_X5_163 v_X5_isPlace ⟨Nat.le_of_ble_eq_true rfl, Nat.le_of_ble_eq_true rfl⟩ rfl rfl (Nat.le_of_ble_eq_true rfl) (Nat.le_of_ble_eq_true rfl) ⟨rfl, Nat.le_of_ble_eq_true rfl, Nat.le_of_ble_eq_true rfl⟩ hf (fun X z => ok_ck z) rfl (fun X z => T_X5_isPlace z) (fun v16 hf => ?_)
      refine ro_if_ne 24 21 dX5_seen_18 rfl rfl hf (fun hf => ?_) (fun hf => ?_)
      · refine rn_iload_n 25 dX5_seen_24 rfl rfl ?_
        refine rn_i2l 26 dX5_seen_25 rfl ?_
        refine rn_lconst 27 dX5_seen_26 rfl lc_1 ?_
        refine rn_ldc2 30 dX5_seen_27 rfl k_X5_206 ?_
        refine ro_cSp (M' := M_X5_in) (As := [.long x2.toInt64, .long 1, .long 14]) (st := []) 33 (0, 0) dX5_seen_30 rfl l_X5_63 v_X5_in ⟨Nat.le_of_ble_eq_true rfl, Nat.le_of_ble_eq_true rfl⟩ rfl rfl (Nat.le_of_ble_eq_true rfl) (Nat.le_of_ble_eq_true rfl) ⟨rfl, Nat.le_of_ble_eq_true rfl, Nat.le_of_ble_eq_true rfl⟩ hf (fun X z => T_X5_in z) (fun v17 hf => ?_)
        refine ro_if_ne 39 36 dX5_seen_33 rfl rfl hf (fun hf => ?_) (fun hf => ?_)
        · refine rn_aload_n 40 dX5_seen_39 rfl rfl ?_
          refine ro_gtI 43 dX5_seen_40 rfl f_X5_58 ft_5_10 hf (fun v18 hf => ?_)
          refine rn_bipush 45 dX5_seen_43 rfl bp_6 ?_
          refine ro_icmp_ne 51 48 dX5_seen_45 rfl rfl hf (fun hf => ?_) (fun hf => ?_)
          · refine rn_aload_n 52 dX5_seen_51 rfl rfl ?_
            refine ro_gtR 55 dX5_seen_52 rfl f_X5_32 ft_5_9 hf (fun r19 hf => ?_)
            refine rn_iconst 56 dX5_seen_55 rfl ic_3 ?_
            refine rn_aload_n 57 dX5_seen_56 rfl rfl ?_
            refine ro_gtI 60 dX5_seen_57 rfl f_X5_58 ft_5_10 hf (fun v20 hf => ?_)
            refine rn_imul 61 dX5_seen_60 rfl ?_
            refine rn_iload_n 62 dX5_seen_61 rfl rfl ?_
            refine ro_iastore 63 dX5_seen_62 rfl hf (fun h21 hf => ?_)
            refine rn_aload_n 64 dX5_seen_63 rfl rfl ?_
            refine ro_gtR 67 dX5_seen_64 rfl f_X5_32 ft_5_9 hf (fun r22 hf => ?_)
            refine rn_iconst 68 dX5_seen_67 rfl ic_3 ?_
            refine rn_aload_n 69 dX5_seen_68 rfl rfl ?_
            refine ro_gtI 72 dX5_seen_69 rfl f_X5_58 ft_5_10 hf (fun v23 hf => ?_)
            refine rn_imul 73 dX5_seen_72 rfl ?_
            refine rn_iconst 74 dX5_seen_73 rfl ic_1 ?_
            refine rn_iadd 75 dX5_seen_74 rfl ?_
            refine rn_iload_n 76 dX5_seen_75 rfl rfl ?_
            refine ro_iastore 77 dX5_seen_76 rfl hf (fun h24 hf => ?_)
            refine rn_aload_n 78 dX5_seen_77 rfl rfl ?_
            refine ro_gtR 81 dX5_seen_78 rfl f_X5_32 ft_5_9 hf (fun r25 hf => ?_)
            refine rn_iconst 82 dX5_seen_81 rfl ic_3 ?_
            refine rn_aload_n 83 dX5_seen_82 rfl rfl ?_
            refine ro_gtI 86 dX5_seen_83 rfl f_X5_58 ft_5_10 hf (fun v26 hf => ?_)
            refine rn_imul 87 dX5_seen_86 rfl ?_
            refine rn_iconst 88 dX5_seen_87 rfl ic_2 ?_
            refine rn_iadd 89 dX5_seen_88 rfl ?_
            refine rn_iload_n 90 dX5_seen_89 rfl rfl ?_
            refine ro_iastore 91 dX5_seen_90 rfl hf (fun h27 hf => ?_)
            refine rn_aload_n 92 dX5_seen_91 rfl rfl ?_
            refine rn_dup 93 dX5_seen_92 rfl rfl ?_
            refine ro_gtI 96 dX5_seen_93 rfl f_X5_58 ft_5_10 hf (fun v28 hf => ?_)
            refine rn_iconst 97 dX5_seen_96 rfl ic_1 ?_
            refine rn_iadd 98 dX5_seen_97 rfl ?_
            refine ro_ptI 101 dX5_seen_98 rfl f_X5_58 pn_5_10 ft_5_10 rfl rfl hf (fun h29 hf => ?_)
            refine rn_aload_n 102 dX5_seen_101 rfl rfl ?_
            refine ro_gtI 105 dX5_seen_102 rfl f_X5_58 ft_5_10 hf (fun v30 hf => ?_)
            exact rn_iret .int dX5_seen_105 rfl rfl (Or.inl rfl) (ok_some hf :)
          · refine rn_bipush 50 dX5_seen_48 rfl bp_m5 ?_
            exact rn_iret .int dX5_seen_50 rfl rfl (Or.inl rfl) (ok_some hf :)
        · refine rn_bipush 38 dX5_seen_36 rfl bp_m3 ?_
          exact rn_iret .int dX5_seen_38 rfl rfl (Or.inl rfl) (ok_some hf :)
      · refine rn_bipush 23 dX5_seen_21 rfl bp_m2 ?_
        exact rn_iret .int dX5_seen_23 rfl rfl (Or.inl rfl) (ok_some hf :)
theorem T_X4_forget {G : WG} {post : PO} {h : AH} {o : Nat} (hf : OkA (F_X4_forget h o) (fun q => post (some q.1) q.2)) : Rn G M_X4_forget (0, 0) 0 [(0, .ref (ad G o))] [] h post := by
  obtain ⟨_, hf⟩ := ok_ck2 hf
  refine rn_aload_n 1 dX4_forget_0 rfl rfl ?_
  refine ro_gtR 4 dX4_forget_1 rfl f_X4_50 ft_4_9 hf (fun r1 hf => ?_)
  refine ro_gtI 7 dX4_forget_4 rfl f_X4_77 ft_0_3 hf (fun v2 hf => ?_)
  refine rn_istore_n (lv' := [(0, .ref (ad G o)), (1, .int v2)]) 8 dX4_forget_7 rfl (Nat.le_of_ble_eq_true rfl) rfl ?_
  refine rn_aload_n 9 dX4_forget_8 rfl rfl ?_
  refine ro_gtR 12 dX4_forget_9 rfl f_X4_50 ft_4_9 hf (fun r3 hf => ?_)
  refine rn_iconst 13 dX4_forget_12 rfl ic_0 ?_
  refine ro_ptI 16 dX4_forget_13 rfl f_X4_77 pn_0_3 ft_0_3 rfl rfl hf (fun h4 hf => ?_)
  refine rn_iload_n 17 dX4_forget_16 rfl rfl ?_
  exact rn_iret .int dX4_forget_17 rfl rfl (Or.inl rfl) (ok_some hf :)
theorem T_X5_forget {G : WG} {post : PO} {h : AH} {o : Nat} (hf : OkA (F_X5_forget h o) (fun q => post (some q.1) q.2)) : Rn G M_X5_forget (0, 0) 0 [(0, .ref (ad G o))] [] h post := by
  obtain ⟨_, hf⟩ := ok_ck2 hf
  refine rn_aload_n 1 dX5_forget_0 rfl rfl ?_
  refine ro_gtI 4 dX5_forget_1 rfl f_X5_58 ft_5_10 hf (fun v1 hf => ?_)
  refine rn_istore_n (lv' := [(0, .ref (ad G o)), (1, .int v1)]) 5 dX5_forget_4 rfl (Nat.le_of_ble_eq_true rfl) rfl ?_
  refine rn_aload_n 6 dX5_forget_5 rfl rfl ?_
  refine rn_iconst 7 dX5_forget_6 rfl ic_0 ?_
  refine ro_ptI 10 dX5_forget_7 rfl f_X5_58 pn_5_10 ft_5_10 rfl rfl hf (fun h2 hf => ?_)
  refine rn_iload_n 11 dX5_forget_10 rfl rfl ?_
  exact rn_iret .int dX5_forget_11 rfl rfl (Or.inl rfl) (ok_some hf :)
theorem T_J9_max_7cf53 {G : WG} {post : PO} {h : AH} {x0 : Int32} {x1 : Int32} (hf : OkA (F_J9_max_7cf53 h x0 x1) (fun q => post (some q) h)) : Rn G M_J9_max_7cf53 (0, 0) 0 [(0, .int x0), (1, .int x1)] [] h post := by
  refine rn_iload_n 1 dJ9_max_7cf53_0 rfl rfl ?_
  refine rn_iload_n 2 dJ9_max_7cf53_1 rfl rfl ?_
  refine ro_icmp_lt 9 5 dJ9_max_7cf53_2 rfl rfl hf (fun hf => ?_) (fun hf => ?_)
  · refine rn_iload_n 10 dJ9_max_7cf53_9 rfl rfl ?_
    exact rn_iret .int dJ9_max_7cf53_10 rfl rfl (Or.inl rfl) (ok_some hf :)
  · refine rn_iload_n 6 dJ9_max_7cf53_5 rfl rfl ?_
    refine rn_goto 10 dJ9_max_7cf53_6 rfl ?_
    exact rn_iret .int dJ9_max_7cf53_10 rfl rfl (Or.inl rfl) (ok_some hf :)
