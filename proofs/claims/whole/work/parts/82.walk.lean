theorem T_X5_readsClause {G : WG} {post : PO} {h : AH} {o : Nat} (hf : OkA (F_X5_readsClause h o) (fun q => post (some q.1) q.2)) : Rn G M_X5_readsClause (0, 0) 0 [(0, .ref (ad G o))] [] h post := by
  obtain ⟨_, hf⟩ := ok_ck2 hf
  refine rn_aload_n 1 dX5_readsClause_0 rfl rfl ?_
  refine ro_gtI 4 dX5_readsClause_1 rfl f_X5_95 ft_5_13 hf (fun v1 hf => ?_)
  refine rn_iconst 5 dX5_readsClause_4 rfl ic_1 ?_
  refine ro_icmp_eq 10 8 dX5_readsClause_5 rfl rfl hf (fun hf => ?_) (fun hf => ?_)
  · refine rn_aload_n 11 dX5_readsClause_10 rfl rfl ?_
    refine ro_gtL 14 dX5_readsClause_11 rfl f_X5_80 ft_5_14 hf (fun v2 hf => ?_)
    refine rn_lstore_n (lv' := [(0, .ref (ad G o)), (1, .long v2)]) 15 dX5_readsClause_14 rfl (Nat.le_of_ble_eq_true rfl) rfl ?_
    refine rn_lload_n 16 dX5_readsClause_15 rfl rfl ?_
    refine rn_ldc2 19 dX5_readsClause_16 rfl k_X5_109 ?_
    refine rn_lcmp 20 dX5_readsClause_19 rfl ?_
    refine ro_if_ne 28 23 dX5_readsClause_20 rfl rfl hf (fun hf => ?_) (fun hf => ?_)
    · refine rn_lload_n 29 dX5_readsClause_28 rfl rfl ?_
      refine rn_ldc2 32 dX5_readsClause_29 rfl k_X5_115 ?_
      refine rn_lcmp 33 dX5_readsClause_32 rfl ?_
      refine ro_if_ne 41 36 dX5_readsClause_33 rfl rfl hf (fun hf => ?_) (fun hf => ?_)
      · refine rn_lload_n 42 dX5_readsClause_41 rfl rfl ?_
        refine rn_ldc2 45 dX5_readsClause_42 rfl k_X5_120 ?_
        refine rn_lcmp 46 dX5_readsClause_45 rfl ?_
        refine ro_if_ne 54 49 dX5_readsClause_46 rfl rfl hf (fun hf => ?_) (fun hf => ?_)
        · refine rn_lload_n 55 dX5_readsClause_54 rfl rfl ?_
          refine rn_ldc2 58 dX5_readsClause_55 rfl k_X5_125 ?_
          refine rn_lcmp 59 dX5_readsClause_58 rfl ?_
          refine ro_if_ne 67 62 dX5_readsClause_59 rfl rfl hf (fun hf => ?_) (fun hf => ?_)
          · refine rn_lload_n 68 dX5_readsClause_67 rfl rfl ?_
            refine rn_ldc2 71 dX5_readsClause_68 rfl k_X5_130 ?_
            refine rn_lcmp 72 dX5_readsClause_71 rfl ?_
            refine ro_reg (X := (fun q3 : Int32 => Rn G M_X5_readsClause (0, 0) 116 [(0, .ref (ad G o)), (1, .long v2)] [.int q3] h post)) hf (fun q3 hf => ?_) (fun hf => ?_)
            · refine rn_istore_n (lv' := [(0, .ref (ad G o)), (1, .long v2), (3, .int q3)]) 117 dX5_readsClause_116 rfl (Nat.le_of_ble_eq_true rfl) rfl ?_
              refine rn_iload_n 118 dX5_readsClause_117 rfl rfl ?_
              refine ro_if_lt 133 121 dX5_readsClause_118 rfl rfl hf (fun hf => ?_) (fun hf => ?_)
              · refine rn_iconst 134 dX5_readsClause_133 rfl ic_0 ?_
                exact rn_iret .boolean dX5_readsClause_134 rfl rfl (Or.inl rfl) (ok_some hf :)
              · refine rn_aload_n 122 dX5_readsClause_121 rfl rfl ?_
                refine rn_iload_n 123 dX5_readsClause_122 rfl rfl ?_
                refine ro_cVi (M' := M_X5_readsHen) (As := [.int q3]) (o := o) (st := []) 126 (0, 0) dX5_readsClause_123 rfl l_X5_138 v_X5_readsHen ⟨Nat.le_of_ble_eq_true rfl, Nat.le_of_ble_eq_true rfl⟩ rfl rfl (Nat.le_of_ble_eq_true rfl) (Nat.le_of_ble_eq_true rfl) ⟨rfl, Nat.le_of_ble_eq_true rfl, Nat.le_of_ble_eq_true rfl⟩ hf (fun X z => ok_ck z) rfl (fun X z => T_X5_readsHen z) (fun q4 hf => ?_)
                refine ro_if_eq 133 129 dX5_readsClause_126 rfl rfl hf (fun hf => ?_) (fun hf => ?_)
                · refine rn_iconst 134 dX5_readsClause_133 rfl ic_0 ?_
                  exact rn_iret .boolean dX5_readsClause_134 rfl rfl (Or.inl rfl) (ok_some hf :)
                · refine rn_iconst 130 dX5_readsClause_129 rfl ic_1 ?_
                  refine rn_goto 134 dX5_readsClause_130 rfl ?_
                  exact rn_iret .boolean dX5_readsClause_134 rfl rfl (Or.inl rfl) (ok_some hf :)
            · refine ro_if_ne 79 75 dX5_readsClause_72 rfl rfl hf (fun hf => ?_) (fun hf => ?_)
              · refine rn_lload_n 80 dX5_readsClause_79 rfl rfl ?_
                refine rn_ldc2 83 dX5_readsClause_80 rfl k_X5_132 ?_
                refine rn_lcmp 84 dX5_readsClause_83 rfl ?_
                refine ro_if_ne 91 87 dX5_readsClause_84 rfl rfl hf (fun hf => ?_) (fun hf => ?_)
                · refine rn_lload_n 92 dX5_readsClause_91 rfl rfl ?_
                  refine rn_ldc2 95 dX5_readsClause_92 rfl k_X5_134 ?_
                  refine rn_lcmp 96 dX5_readsClause_95 rfl ?_
                  refine ro_if_ne 103 99 dX5_readsClause_96 rfl rfl hf (fun hf => ?_) (fun hf => ?_)
                  · refine rn_lload_n 104 dX5_readsClause_103 rfl rfl ?_
                    refine rn_ldc2 107 dX5_readsClause_104 rfl k_X5_136 ?_
                    refine rn_lcmp 108 dX5_readsClause_107 rfl ?_
                    refine ro_if_ne 115 111 dX5_readsClause_108 rfl rfl hf (fun hf => ?_) (fun hf => ?_)
                    · refine rn_iconst 116 dX5_readsClause_115 rfl ic_m1 ?_
                      exact (ok_some hf :)
                    · refine rn_iconst 112 dX5_readsClause_111 rfl ic_3 ?_
                      refine rn_goto 116 dX5_readsClause_112 rfl ?_
                      exact (ok_some hf :)
                  · refine rn_iconst 100 dX5_readsClause_99 rfl ic_2 ?_
                    refine rn_goto 116 dX5_readsClause_100 rfl ?_
                    exact (ok_some hf :)
                · refine rn_iconst 88 dX5_readsClause_87 rfl ic_1 ?_
                  refine rn_goto 116 dX5_readsClause_88 rfl ?_
                  exact (ok_some hf :)
              · refine rn_iconst 76 dX5_readsClause_75 rfl ic_0 ?_
                refine rn_goto 116 dX5_readsClause_76 rfl ?_
                exact (ok_some hf :)
          · refine rn_aload_n 63 dX5_readsClause_62 rfl rfl ?_
            refine ro_cVi (M' := M_X5_calm) (As := []) (o := o) (st := []) 66 (0, 0) dX5_readsClause_63 rfl l_X5_127 v_X5_calm ⟨Nat.le_of_ble_eq_true rfl, Nat.le_of_ble_eq_true rfl⟩ rfl rfl (Nat.le_of_ble_eq_true rfl) (Nat.le_of_ble_eq_true rfl) ⟨rfl, Nat.le_of_ble_eq_true rfl, Nat.le_of_ble_eq_true rfl⟩ hf (fun X z => ok_ck z) rfl (fun X z => T_X5_calm z) (fun q5 hf => ?_)
            exact ro_zret dX5_readsClause_66 rfl (Or.inl rfl) hf (fun v6 hf => (ok_some hf :))
        · refine rn_aload_n 50 dX5_readsClause_49 rfl rfl ?_
          refine ro_cVi (M' := M_X5_readsNews) (As := []) (o := o) (st := []) 53 (0, 0) dX5_readsClause_50 rfl l_X5_122 v_X5_readsNews ⟨Nat.le_of_ble_eq_true rfl, Nat.le_of_ble_eq_true rfl⟩ rfl rfl (Nat.le_of_ble_eq_true rfl) (Nat.le_of_ble_eq_true rfl) ⟨rfl, Nat.le_of_ble_eq_true rfl, Nat.le_of_ble_eq_true rfl⟩ hf (fun X z => ok_ck z) rfl (fun X z => T_X5_readsNews z) (fun q7 hf => ?_)
          exact ro_zret dX5_readsClause_53 rfl (Or.inl rfl) hf (fun v8 hf => (ok_some hf :))
      · refine rn_aload_n 37 dX5_readsClause_36 rfl rfl ?_
        refine ro_cVi (M' := M_X5_readsPlace) (As := []) (o := o) (st := []) 40 (0, 0) dX5_readsClause_37 rfl l_X5_117 v_X5_readsPlace ⟨Nat.le_of_ble_eq_true rfl, Nat.le_of_ble_eq_true rfl⟩ rfl rfl (Nat.le_of_ble_eq_true rfl) (Nat.le_of_ble_eq_true rfl) ⟨rfl, Nat.le_of_ble_eq_true rfl, Nat.le_of_ble_eq_true rfl⟩ hf (fun X z => ok_ck z) rfl (fun X z => T_X5_readsPlace z) (fun q9 hf => ?_)
        exact ro_zret dX5_readsClause_40 rfl (Or.inl rfl) hf (fun v10 hf => (ok_some hf :))
    · refine rn_aload_n 24 dX5_readsClause_23 rfl rfl ?_
      refine ro_cVi (M' := M_X5_anew) (As := []) (o := o) (st := []) 27 (0, 0) dX5_readsClause_24 rfl l_X5_111 v_X5_anew ⟨Nat.le_of_ble_eq_true rfl, Nat.le_of_ble_eq_true rfl⟩ rfl rfl (Nat.le_of_ble_eq_true rfl) (Nat.le_of_ble_eq_true rfl) ⟨rfl, Nat.le_of_ble_eq_true rfl, Nat.le_of_ble_eq_true rfl⟩ hf (fun X z => ok_ck z) rfl (fun X z => T_X5_anew z) (fun q11 hf => ?_)
      exact ro_zret dX5_readsClause_27 rfl (Or.inl rfl) hf (fun v12 hf => (ok_some hf :))
  · refine rn_iconst 9 dX5_readsClause_8 rfl ic_0 ?_
    exact rn_iret .boolean dX5_readsClause_9 rfl rfl (Or.inl rfl) (ok_some hf :)
theorem TL_X5_reads_27 {G : WG} {post : PO} {o0 : Nat} {k : AH → Int32 → Option (Int32 × AH)} (hk : ∀ (h : AH) (x1 : Int32), OkA (k h x1) (fun q => post (some q.1) q.2) → Rn G M_X5_reads (0, 0) 87 [(0, .ref (ad G o0)), (1, .int x1)] [] h post) : ∀ (n : Nat) (h : AH) (x1 : Int32), OkA (L_X5_reads_27 o0 k n h x1) (fun q => post (some q.1) q.2) → Rn G M_X5_reads (0, 0) 27 [(0, .ref (ad G o0)), (1, .int x1)] [] h post := by
  intro n
  induction n with
  | zero => intro _ _ hf; exact absurd hf ok_none
  | succ n ih =>
    intro h x1 hf
    refine rn_iload_n 28 dX5_reads_27 rfl rfl ?_
    refine ro_if_eq 87 31 dX5_reads_28 rfl rfl hf (fun hf => ?_) (fun hf => ?_)
    · exact hk _ _ hf
    · refine rn_aload_n 32 dX5_reads_31 rfl rfl ?_
      refine ro_cVv (M' := M_X5_step) (As := []) (o := o0) (st := []) 35 (0, 0) dX5_reads_32 rfl l_X5_102 v_X5_step ⟨Nat.le_of_ble_eq_true rfl, Nat.le_of_ble_eq_true rfl⟩ rfl rfl (Nat.le_of_ble_eq_true rfl) (Nat.le_of_ble_eq_true rfl) ⟨rfl, Nat.le_of_ble_eq_true rfl, Nat.le_of_ble_eq_true rfl⟩ hf (fun X z => ok_ck z) rfl (fun X z => T_X5_step z) (fun h1 hf => ?_)
      refine rn_aload_n 36 dX5_reads_35 rfl rfl ?_
      refine ro_cVi (M' := M_X5_readsClause) (As := []) (o := o0) (st := []) 39 (0, 0) dX5_reads_36 rfl l_X5_148 v_X5_readsClause ⟨Nat.le_of_ble_eq_true rfl, Nat.le_of_ble_eq_true rfl⟩ rfl rfl (Nat.le_of_ble_eq_true rfl) (Nat.le_of_ble_eq_true rfl) ⟨rfl, Nat.le_of_ble_eq_true rfl, Nat.le_of_ble_eq_true rfl⟩ hf (fun X z => ok_ck z) rfl (fun X z => T_X5_readsClause z) (fun q2 hf => ?_)
      refine ro_if_ne 47 42 dX5_reads_39 rfl rfl hf (fun hf => ?_) (fun hf => ?_)
      · refine rn_aload_n 48 dX5_reads_47 rfl rfl ?_
        refine rn_dup 49 dX5_reads_48 rfl rfl ?_
        refine ro_gtI 52 dX5_reads_49 rfl f_X5_145 ft_5_16 hf (fun v3 hf => ?_)
        refine rn_iconst 53 dX5_reads_52 rfl ic_1 ?_
        refine rn_iadd 54 dX5_reads_53 rfl ?_
        refine ro_ptI 57 dX5_reads_54 rfl f_X5_145 pn_5_16 ft_5_16 rfl rfl hf (fun h4 hf => ?_)
        refine rn_aload_n 58 dX5_reads_57 rfl rfl ?_
        refine ro_cVv (M' := M_X5_step) (As := []) (o := o0) (st := []) 61 (0, 0) dX5_reads_58 rfl l_X5_102 v_X5_step ⟨Nat.le_of_ble_eq_true rfl, Nat.le_of_ble_eq_true rfl⟩ rfl rfl (Nat.le_of_ble_eq_true rfl) (Nat.le_of_ble_eq_true rfl) ⟨rfl, Nat.le_of_ble_eq_true rfl, Nat.le_of_ble_eq_true rfl⟩ hf (fun X z => ok_ck z) rfl (fun X z => T_X5_step z) (fun h5 hf => ?_)
        refine rn_aload_n 62 dX5_reads_61 rfl rfl ?_
        refine ro_gtI 65 dX5_reads_62 rfl f_X5_95 ft_5_13 hf (fun v6 hf => ?_)
        refine rn_iconst 66 dX5_reads_65 rfl ic_3 ?_
        refine ro_reg (X := (fun q7 : Int32 => Rn G M_X5_reads (0, 0) 83 [(0, .ref (ad G o0)), (1, .int x1)] [.int q7] h5 post)) hf (fun q7 hf => ?_) (fun hf => ?_)
        · refine rn_istore_n (lv' := [(0, .ref (ad G o0)), (1, .int q7)]) 84 dX5_reads_83 rfl (Nat.le_of_ble_eq_true rfl) rfl ?_
          refine rn_goto 27 dX5_reads_84 rfl ?_
          exact ih _ _ hf
        · refine ro_icmp_ne 82 69 dX5_reads_66 rfl rfl hf (fun hf => ?_) (fun hf => ?_)
          · refine rn_iconst 83 dX5_reads_82 rfl ic_0 ?_
            exact (ok_some hf :)
          · refine rn_aload_n 70 dX5_reads_69 rfl rfl ?_
            refine ro_gtI 73 dX5_reads_70 rfl f_X5_145 ft_5_16 hf (fun v8 hf => ?_)
            refine rn_bipush 75 dX5_reads_73 rfl bp_14 ?_
            refine ro_icmp_ge 82 78 dX5_reads_75 rfl rfl hf (fun hf => ?_) (fun hf => ?_)
            · refine rn_iconst 83 dX5_reads_82 rfl ic_0 ?_
              exact (ok_some hf :)
            · refine rn_iconst 79 dX5_reads_78 rfl ic_1 ?_
              refine rn_goto 83 dX5_reads_79 rfl ?_
              exact (ok_some hf :)
      · refine rn_aload_n 43 dX5_reads_42 rfl rfl ?_
        refine ro_gtI 46 dX5_reads_43 rfl f_X5_77 ft_5_12 hf (fun v9 hf => ?_)
        exact rn_iret .int dX5_reads_46 rfl rfl (Or.inl rfl) (ok_some hf :)
theorem T_X5_reads {G : WG} {post : PO} {h : AH} {o : Nat} (hf : OkA (F_X5_reads h o) (fun q => post (some q.1) q.2)) : Rn G M_X5_reads (0, 0) 0 [(0, .ref (ad G o))] [] h post := by
  obtain ⟨_, hf⟩ := ok_ck2 hf
  refine rn_aload_n 1 dX5_reads_0 rfl rfl ?_
  refine ro_gtR 4 dX5_reads_1 rfl f_X5_7 ft_5_0 hf (fun r1 hf => ?_)
  refine rn_iconst 5 dX5_reads_4 rfl ic_0 ?_
  refine rn_aload_n 6 dX5_reads_5 rfl rfl ?_
  refine ro_gtR 9 dX5_reads_6 rfl f_X5_13 ft_5_1 hf (fun r2 hf => ?_)
  refine rn_iconst 10 dX5_reads_9 rfl ic_0 ?_
  refine rn_bipush 12 dX5_reads_10 rfl bp_50 ?_
  refine ro_cSv (M' := M_X5_copies) (As := [.ref (ad G r1), .int 0, .ref (ad G r2), .int 0, .int 50]) (st := []) 15 (0, 0) dX5_reads_12 rfl l_X5_141 v_X5_copies ⟨Nat.le_of_ble_eq_true rfl, Nat.le_of_ble_eq_true rfl⟩ rfl rfl (Nat.le_of_ble_eq_true rfl) (Nat.le_of_ble_eq_true rfl) ⟨rfl, Nat.le_of_ble_eq_true rfl, Nat.le_of_ble_eq_true rfl⟩ hf (fun X z => T_X5_copies z) (fun h3 hf => ?_)
  refine rn_aload_n 16 dX5_reads_15 rfl rfl ?_
  refine rn_iconst 17 dX5_reads_16 rfl ic_0 ?_
  refine ro_ptI 20 dX5_reads_17 rfl f_X5_70 pn_5_11 ft_5_11 rfl rfl hf (fun h4 hf => ?_)
  refine rn_aload_n 21 dX5_reads_20 rfl rfl ?_
  refine rn_iconst 22 dX5_reads_21 rfl ic_0 ?_
  refine ro_ptI 25 dX5_reads_22 rfl f_X5_145 pn_5_16 ft_5_16 rfl rfl hf (fun h5 hf => ?_)
  refine rn_iconst 26 dX5_reads_25 rfl ic_1 ?_
  refine rn_istore_n (lv' := [(0, .ref (ad G o)), (1, .int 1)]) 27 dX5_reads_26 rfl (Nat.le_of_ble_eq_true rfl) rfl ?_
  refine TL_X5_reads_27 ?_ FU _ _ hf
  intro h10 y11 hf
  refine rn_aload_n 88 dX5_reads_87 rfl rfl ?_
  refine ro_gtI 91 dX5_reads_88 rfl f_X5_95 ft_5_13 hf (fun v12 hf => ?_)
  refine ro_if_ne 98 94 dX5_reads_91 rfl rfl hf (fun hf => ?_) (fun hf => ?_)
  · refine rn_aload_n 99 dX5_reads_98 rfl rfl ?_
    refine ro_gtI 102 dX5_reads_99 rfl f_X5_77 ft_5_12 hf (fun v13 hf => ?_)
    exact rn_iret .int dX5_reads_102 rfl rfl (Or.inl rfl) (ok_some hf :)
  · refine rn_iconst 95 dX5_reads_94 rfl ic_m1 ?_
    refine rn_goto 102 dX5_reads_95 rfl ?_
    exact rn_iret .int dX5_reads_102 rfl rfl (Or.inl rfl) (ok_some hf :)
theorem T_X5_fault {G : WG} {post : PO} {h : AH} {o : Nat} (hf : OkA (F_X5_fault h o) (fun q => post (some q.1) q.2)) : Rn G M_X5_fault (0, 0) 0 [(0, .ref (ad G o))] [] h post := by
  obtain ⟨_, hf⟩ := ok_ck2 hf
  refine rn_aload_n 1 dX5_fault_0 rfl rfl ?_
  refine ro_cVi (M' := M_X5_reads) (As := []) (o := o) (st := []) 4 (0, 0) dX5_fault_1 rfl l_X5_151 v_X5_reads ⟨Nat.le_of_ble_eq_true rfl, Nat.le_of_ble_eq_true rfl⟩ rfl rfl (Nat.le_of_ble_eq_true rfl) (Nat.le_of_ble_eq_true rfl) ⟨rfl, Nat.le_of_ble_eq_true rfl, Nat.le_of_ble_eq_true rfl⟩ hf (fun X z => ok_ck z) rfl (fun X z => T_X5_reads z) (fun q1 hf => ?_)
  exact rn_iret .int dX5_fault_4 rfl rfl (Or.inl rfl) (ok_some hf :)
theorem T_X3_beginAs {G : WG} {post : PO} {h : AH} {o : Nat} {o1 : Nat} (hf : OkA (F_X3_beginAs h o o1) (fun q => post none q)) : Rn G M_X3_beginAs (0, 0) 0 [(0, .ref (ad G o)), (1, .ref (ad G o1))] [] h post := by
  obtain ⟨_, hf⟩ := ok_ck2 hf
  refine rn_aload_n 1 dX3_beginAs_0 rfl rfl ?_
  refine ro_gtR 4 dX3_beginAs_1 rfl f_X3_45 ft_2_2 hf (fun r1 hf => ?_)
  refine rn_iconst 5 dX3_beginAs_4 rfl ic_0 ?_
  refine rn_aload_n 6 dX3_beginAs_5 rfl rfl ?_
  refine ro_gtR 9 dX3_beginAs_6 rfl f_X3_9 ft_3_0 hf (fun r2 hf => ?_)
  refine rn_iconst 10 dX3_beginAs_9 rfl ic_0 ?_
  refine rn_bipush 12 dX3_beginAs_10 rfl bp_8 ?_
  refine ro_copy 15 dX3_beginAs_12 rfl l_X3_48 ⟨Nat.le_of_ble_eq_true rfl, Nat.le_of_ble_eq_true rfl⟩ hf (fun h3 hf => ?_)
  refine rn_aload_n 16 dX3_beginAs_15 rfl rfl ?_
  refine ro_gtR 19 dX3_beginAs_16 rfl f_X3_54 ft_2_3 hf (fun r4 hf => ?_)
  refine rn_iconst 20 dX3_beginAs_19 rfl ic_0 ?_
  refine rn_aload_n 21 dX3_beginAs_20 rfl rfl ?_
  refine ro_gtR 24 dX3_beginAs_21 rfl f_X3_15 ft_3_1 hf (fun r5 hf => ?_)
  refine rn_iconst 25 dX3_beginAs_24 rfl ic_0 ?_
  refine rn_bipush 27 dX3_beginAs_25 rfl bp_8 ?_
  refine ro_copy 30 dX3_beginAs_27 rfl l_X3_48 ⟨Nat.le_of_ble_eq_true rfl, Nat.le_of_ble_eq_true rfl⟩ hf (fun h6 hf => ?_)
  refine rn_aload_n 31 dX3_beginAs_30 rfl rfl ?_
  refine ro_gtR 34 dX3_beginAs_31 rfl f_X3_55 ft_2_5 hf (fun r7 hf => ?_)
  refine rn_iconst 35 dX3_beginAs_34 rfl ic_0 ?_
  refine rn_aload_n 36 dX3_beginAs_35 rfl rfl ?_
  refine ro_gtR 39 dX3_beginAs_36 rfl f_X3_24 ft_3_4 hf (fun r8 hf => ?_)
  refine rn_iconst 40 dX3_beginAs_39 rfl ic_0 ?_
  refine rn_iconst 41 dX3_beginAs_40 rfl ic_5 ?_
  refine ro_copy 44 dX3_beginAs_41 rfl l_X3_48 ⟨Nat.le_of_ble_eq_true rfl, Nat.le_of_ble_eq_true rfl⟩ hf (fun h9 hf => ?_)
  refine rn_aload_n 45 dX3_beginAs_44 rfl rfl ?_
  refine ro_gtR 48 dX3_beginAs_45 rfl f_X3_56 ft_2_6 hf (fun r10 hf => ?_)
  refine rn_iconst 49 dX3_beginAs_48 rfl ic_0 ?_
  refine rn_aload_n 50 dX3_beginAs_49 rfl rfl ?_
  refine ro_gtR 53 dX3_beginAs_50 rfl f_X3_27 ft_3_5 hf (fun r11 hf => ?_)
  refine rn_iconst 54 dX3_beginAs_53 rfl ic_0 ?_
  refine rn_iconst 55 dX3_beginAs_54 rfl ic_5 ?_
  refine ro_copy 58 dX3_beginAs_55 rfl l_X3_48 ⟨Nat.le_of_ble_eq_true rfl, Nat.le_of_ble_eq_true rfl⟩ hf (fun h12 hf => ?_)
  refine rn_aload_n 59 dX3_beginAs_58 rfl rfl ?_
  refine ro_gtR 62 dX3_beginAs_59 rfl f_X3_18 ft_3_2 hf (fun r13 hf => ?_)
  refine rn_iconst 63 dX3_beginAs_62 rfl ic_m1 ?_
  refine ro_cSv (M' := M_J7_fill_53178) (As := [.ref (ad G r13), .int (-1)]) (st := []) 66 (0, 0) dX3_beginAs_63 rfl l_X3_39 v_J7_fill_53178 ⟨Nat.le_of_ble_eq_true rfl, Nat.le_of_ble_eq_true rfl⟩ rfl rfl (Nat.le_of_ble_eq_true rfl) (Nat.le_of_ble_eq_true rfl) ⟨rfl, Nat.le_of_ble_eq_true rfl, Nat.le_of_ble_eq_true rfl⟩ hf (fun X z => T_J7_fill_53178 z) (fun h14 hf => ?_)
  refine rn_aload_n 67 dX3_beginAs_66 rfl rfl ?_
  refine ro_gtR 70 dX3_beginAs_67 rfl f_X3_30 ft_3_6 hf (fun r15 hf => ?_)
  refine rn_iconst 71 dX3_beginAs_70 rfl ic_m1 ?_
  refine ro_cSv (M' := M_J7_fill_53178) (As := [.ref (ad G r15), .int (-1)]) (st := []) 74 (0, 0) dX3_beginAs_71 rfl l_X3_39 v_J7_fill_53178 ⟨Nat.le_of_ble_eq_true rfl, Nat.le_of_ble_eq_true rfl⟩ rfl rfl (Nat.le_of_ble_eq_true rfl) (Nat.le_of_ble_eq_true rfl) ⟨rfl, Nat.le_of_ble_eq_true rfl, Nat.le_of_ble_eq_true rfl⟩ hf (fun X z => T_J7_fill_53178 z) (fun h16 hf => ?_)
  refine rn_aload_n 75 dX3_beginAs_74 rfl rfl ?_
  refine ro_gtR 78 dX3_beginAs_75 rfl f_X3_33 ft_3_7 hf (fun r17 hf => ?_)
  refine rn_iconst 79 dX3_beginAs_78 rfl ic_0 ?_
  refine ro_cSv (M' := M_J7_fill_53178) (As := [.ref (ad G r17), .int 0]) (st := []) 82 (0, 0) dX3_beginAs_79 rfl l_X3_39 v_J7_fill_53178 ⟨Nat.le_of_ble_eq_true rfl, Nat.le_of_ble_eq_true rfl⟩ rfl rfl (Nat.le_of_ble_eq_true rfl) (Nat.le_of_ble_eq_true rfl) ⟨rfl, Nat.le_of_ble_eq_true rfl, Nat.le_of_ble_eq_true rfl⟩ hf (fun X z => T_J7_fill_53178 z) (fun h18 hf => ?_)
  refine rn_aload_n 83 dX3_beginAs_82 rfl rfl ?_
  refine ro_gtR 86 dX3_beginAs_83 rfl f_X3_36 ft_3_8 hf (fun r19 hf => ?_)
  refine rn_iconst 87 dX3_beginAs_86 rfl ic_0 ?_
  refine ro_cSv (M' := M_J7_fill_53178) (As := [.ref (ad G r19), .int 0]) (st := []) 90 (0, 0) dX3_beginAs_87 rfl l_X3_39 v_J7_fill_53178 ⟨Nat.le_of_ble_eq_true rfl, Nat.le_of_ble_eq_true rfl⟩ rfl rfl (Nat.le_of_ble_eq_true rfl) (Nat.le_of_ble_eq_true rfl) ⟨rfl, Nat.le_of_ble_eq_true rfl, Nat.le_of_ble_eq_true rfl⟩ hf (fun X z => T_J7_fill_53178 z) (fun h20 hf => ?_)
  refine rn_aload_n 91 dX3_beginAs_90 rfl rfl ?_
  refine rn_iconst 92 dX3_beginAs_91 rfl ic_0 ?_
  refine ro_ptI 95 dX3_beginAs_92 rfl f_X3_57 pn_3_9 ft_3_9 rfl rfl hf (fun h21 hf => ?_)
  refine rn_aload_n 96 dX3_beginAs_95 rfl rfl ?_
  refine rn_iconst 97 dX3_beginAs_96 rfl ic_0 ?_
  refine ro_ptZ 100 dX3_beginAs_97 rfl f_X3_61 pn_3_10 ft_3_10 tz_3_10 hf (fun h22 hf => ?_)
  refine rn_aload_n 101 dX3_beginAs_100 rfl rfl ?_
  refine rn_iconst 102 dX3_beginAs_101 rfl ic_0 ?_
  refine ro_ptI 105 dX3_beginAs_102 rfl f_X3_65 pn_3_11 ft_3_11 rfl rfl hf (fun h23 hf => ?_)
  refine rn_aload_n 106 dX3_beginAs_105 rfl rfl ?_
  refine rn_iconst 107 dX3_beginAs_106 rfl ic_0 ?_
  refine ro_ptI 110 dX3_beginAs_107 rfl f_X3_68 pn_3_12 ft_3_12 rfl rfl hf (fun h24 hf => ?_)
  refine rn_aload_n 111 dX3_beginAs_110 rfl rfl ?_
  refine rn_iconst 112 dX3_beginAs_111 rfl ic_0 ?_
  refine ro_ptI 115 dX3_beginAs_112 rfl f_X3_71 pn_3_13 ft_3_13 rfl rfl hf (fun h25 hf => ?_)
  exact rn_vret dX3_beginAs_115 rfl (Or.inl rfl) (ok_some hf :)
theorem TL_X4_yard_74 {G : WG} {post : PO} {β : Type} {P : β → Prop} {o0 : Nat} {k : AH → Int32 → Option (β)} (hk : ∀ (h : AH) (x1 : Int32), OkA (k h x1) P → Rn G M_X4_yard (0, 0) 92 [(0, .ref (ad G o0)), (1, .int x1)] [] h post) : ∀ (n : Nat) (h : AH) (x1 : Int32), OkA (L_X4_yard_74 o0 k n h x1) P → Rn G M_X4_yard (0, 0) 74 [(0, .ref (ad G o0)), (1, .int x1)] [] h post := by
  intro n
  induction n with
  | zero => intro _ _ hf; exact absurd hf ok_none
  | succ n ih =>
    intro h x1 hf
    refine rn_iload_n 75 dX4_yard_74 rfl rfl ?_
    refine rn_iconst 76 dX4_yard_75 rfl ic_2 ?_
    refine ro_icmp_ge 92 79 dX4_yard_76 rfl rfl hf (fun hf => ?_) (fun hf => ?_)
    · exact hk _ _ hf
    · refine rn_aload_n 80 dX4_yard_79 rfl rfl ?_
      refine ro_gtR 83 dX4_yard_80 rfl f_X4_43 ft_4_8 hf (fun r1 hf => ?_)
      refine rn_iload_n 84 dX4_yard_83 rfl rfl ?_
      refine rn_iconst 85 dX4_yard_84 rfl ic_0 ?_
      refine ro_bastore 86 dX4_yard_85 rfl hf (fun h2 hf => ?_)
      refine rn_iinc (lv' := [(0, .ref (ad G o0)), (1, .int (x1 + 1))]) 89 dX4_yard_86 rfl (Nat.le_of_ble_eq_true rfl) rfl (inc_1 _) rfl ?_
      refine rn_goto 74 dX4_yard_89 rfl ?_
      exact ih _ _ hf
theorem T_X4_yard {G : WG} {post : PO} {h : AH} {o : Nat} (hf : OkA (F_X4_yard h o) (fun q => post (some q.1) q.2)) : Rn G M_X4_yard (0, 0) 0 [(0, .ref (ad G o))] [] h post := by
  obtain ⟨_, hf⟩ := ok_ck2 hf
  refine rn_aload_n 1 dX4_yard_0 rfl rfl ?_
  refine ro_gtR 4 dX4_yard_1 rfl f_X4_23 ft_4_2 hf (fun r1 hf => ?_)
  refine rn_aload_n 5 dX4_yard_4 rfl rfl ?_
  refine ro_gtR 8 dX4_yard_5 rfl f_X4_19 ft_4_1 hf (fun r2 hf => ?_)
  refine ro_cVv (M' := M_X2_copyFrom) (As := [.ref (ad G r2)]) (o := r1) (st := []) 11 (0, 0) dX4_yard_8 rfl l_X4_66 v_X2_copyFrom ⟨Nat.le_of_ble_eq_true rfl, Nat.le_of_ble_eq_true rfl⟩ rfl rfl (Nat.le_of_ble_eq_true rfl) (Nat.le_of_ble_eq_true rfl) ⟨rfl, Nat.le_of_ble_eq_true rfl, Nat.le_of_ble_eq_true rfl⟩ hf (fun X z => ok_ck z) rfl (fun X z => T_X2_copyFrom z) (fun h3 hf => ?_)
  refine rn_aload_n 12 dX4_yard_11 rfl rfl ?_
  refine ro_gtR 15 dX4_yard_12 rfl f_X4_10 ft_4_0 hf (fun r4 hf => ?_)
  refine rn_aload_n 16 dX4_yard_15 rfl rfl ?_
  refine ro_gtR 19 dX4_yard_16 rfl f_X4_23 ft_4_2 hf (fun r5 hf => ?_)
  refine ro_cVi (M' := M_X1_readInto) (As := [.ref (ad G r5)]) (o := r4) (st := []) 22 (0, 0) dX4_yard_19 rfl l_X4_70 v_X1_readInto ⟨Nat.le_of_ble_eq_true rfl, Nat.le_of_ble_eq_true rfl⟩ rfl rfl (Nat.le_of_ble_eq_true rfl) (Nat.le_of_ble_eq_true rfl) ⟨rfl, Nat.le_of_ble_eq_true rfl, Nat.le_of_ble_eq_true rfl⟩ hf (fun X z => ok_ck z) rfl (fun X z => T_X1_readInto z) (fun q6 hf => ?_)
  refine rn_iconst 23 dX4_yard_22 rfl ic_m1 ?_
  refine ro_icmp_eq 29 26 dX4_yard_23 rfl rfl hf (fun hf => ?_) (fun hf => ?_)
  · refine rn_aload_n 30 dX4_yard_29 rfl rfl ?_
    refine ro_gtR 33 dX4_yard_30 rfl f_X4_19 ft_4_1 hf (fun r7 hf => ?_)
    refine rn_aload_n 34 dX4_yard_33 rfl rfl ?_
    refine ro_gtR 37 dX4_yard_34 rfl f_X4_23 ft_4_2 hf (fun r8 hf => ?_)
    refine ro_cVv (M' := M_X2_copyFrom) (As := [.ref (ad G r8)]) (o := r7) (st := []) 40 (0, 0) dX4_yard_37 rfl l_X4_66 v_X2_copyFrom ⟨Nat.le_of_ble_eq_true rfl, Nat.le_of_ble_eq_true rfl⟩ rfl rfl (Nat.le_of_ble_eq_true rfl) (Nat.le_of_ble_eq_true rfl) ⟨rfl, Nat.le_of_ble_eq_true rfl, Nat.le_of_ble_eq_true rfl⟩ hf (fun X z => ok_ck z) rfl (fun X z => T_X2_copyFrom z) (fun h9 hf => ?_)
    refine rn_aload_n 41 dX4_yard_40 rfl rfl ?_
    refine ro_gtR 44 dX4_yard_41 rfl f_X4_10 ft_4_0 hf (fun r10 hf => ?_)
    refine rn_iconst 45 dX4_yard_44 rfl ic_0 ?_
    refine ro_ptI 48 dX4_yard_45 rfl f_X4_58 pn_1_1 ft_1_1 rfl rfl hf (fun h11 hf => ?_)
    refine rn_aload_n 49 dX4_yard_48 rfl rfl ?_
    refine ro_gtR 52 dX4_yard_49 rfl f_X4_29 ft_4_3 hf (fun r12 hf => ?_)
    refine rn_aload_n 53 dX4_yard_52 rfl rfl ?_
    refine ro_gtR 56 dX4_yard_53 rfl f_X4_19 ft_4_1 hf (fun r13 hf => ?_)
    refine ro_cVv (M' := M_X3_beginAs) (As := [.ref (ad G r13)]) (o := r12) (st := []) 59 (0, 0) dX4_yard_56 rfl l_X4_74 v_X3_beginAs ⟨Nat.le_of_ble_eq_true rfl, Nat.le_of_ble_eq_true rfl⟩ rfl rfl (Nat.le_of_ble_eq_true rfl) (Nat.le_of_ble_eq_true rfl) ⟨rfl, Nat.le_of_ble_eq_true rfl, Nat.le_of_ble_eq_true rfl⟩ hf (fun X z => ok_ck z) rfl (fun X z => T_X3_beginAs z) (fun h14 hf => ?_)
    refine rn_aload_n 60 dX4_yard_59 rfl rfl ?_
    refine ro_gtR 63 dX4_yard_60 rfl f_X4_50 ft_4_9 hf (fun r15 hf => ?_)
    refine rn_iconst 64 dX4_yard_63 rfl ic_0 ?_
    refine ro_ptI 67 dX4_yard_64 rfl f_X4_77 pn_0_3 ft_0_3 rfl rfl hf (fun h16 hf => ?_)
    refine rn_aload_n 68 dX4_yard_67 rfl rfl ?_
    refine rn_iconst 69 dX4_yard_68 rfl ic_0 ?_
    refine ro_ptI 72 dX4_yard_69 rfl f_X4_80 pn_4_6 ft_4_6 rfl rfl hf (fun h17 hf => ?_)
    refine rn_iconst 73 dX4_yard_72 rfl ic_0 ?_
    refine rn_istore_n (lv' := [(0, .ref (ad G o)), (1, .int 0)]) 74 dX4_yard_73 rfl (Nat.le_of_ble_eq_true rfl) rfl ?_
    refine TL_X4_yard_74 ?_ FU _ _ hf
    intro h18 y19 hf
    refine rn_aload_n 93 dX4_yard_92 rfl rfl ?_
    refine ro_gtR 96 dX4_yard_93 rfl f_X4_10 ft_4_0 hf (fun r20 hf => ?_)
    refine ro_gtI 99 dX4_yard_96 rfl f_X4_83 ft_1_2 hf (fun v21 hf => ?_)
    exact rn_iret .int dX4_yard_99 rfl rfl (Or.inl rfl) (ok_some hf :)
  · refine rn_bipush 28 dX4_yard_26 rfl bp_m4 ?_
    exact rn_iret .int dX4_yard_28 rfl rfl (Or.inl rfl) (ok_some hf :)
theorem T_X5_yard {G : WG} {post : PO} {h : AH} {o : Nat} (hf : OkA (F_X5_yard h o) (fun q => post (some q.1) q.2)) : Rn G M_X5_yard (0, 0) 0 [(0, .ref (ad G o))] [] h post := by
  obtain ⟨_, hf⟩ := ok_ck2 hf
  refine rn_aload_n 1 dX5_yard_0 rfl rfl ?_
  refine ro_cVi (M' := M_X5_reads) (As := []) (o := o) (st := []) 4 (0, 0) dX5_yard_1 rfl l_X5_151 v_X5_reads ⟨Nat.le_of_ble_eq_true rfl, Nat.le_of_ble_eq_true rfl⟩ rfl rfl (Nat.le_of_ble_eq_true rfl) (Nat.le_of_ble_eq_true rfl) ⟨rfl, Nat.le_of_ble_eq_true rfl, Nat.le_of_ble_eq_true rfl⟩ hf (fun X z => ok_ck z) rfl (fun X z => T_X5_reads z) (fun q1 hf => ?_)
  refine rn_iconst 5 dX5_yard_4 rfl ic_m1 ?_
  refine ro_icmp_eq 11 8 dX5_yard_5 rfl rfl hf (fun hf => ?_) (fun hf => ?_)
  · refine rn_aload_n 12 dX5_yard_11 rfl rfl ?_
    refine ro_gtR 15 dX5_yard_12 rfl f_X5_13 ft_5_1 hf (fun r2 hf => ?_)
    refine rn_iconst 16 dX5_yard_15 rfl ic_0 ?_
    refine rn_aload_n 17 dX5_yard_16 rfl rfl ?_
    refine ro_gtR 20 dX5_yard_17 rfl f_X5_7 ft_5_0 hf (fun r3 hf => ?_)
    refine rn_iconst 21 dX5_yard_20 rfl ic_0 ?_
    refine rn_bipush 23 dX5_yard_21 rfl bp_50 ?_
    refine ro_cSv (M' := M_X5_copies) (As := [.ref (ad G r2), .int 0, .ref (ad G r3), .int 0, .int 50]) (st := []) 26 (0, 0) dX5_yard_23 rfl l_X5_141 v_X5_copies ⟨Nat.le_of_ble_eq_true rfl, Nat.le_of_ble_eq_true rfl⟩ rfl rfl (Nat.le_of_ble_eq_true rfl) (Nat.le_of_ble_eq_true rfl) ⟨rfl, Nat.le_of_ble_eq_true rfl, Nat.le_of_ble_eq_true rfl⟩ hf (fun X z => T_X5_copies z) (fun h4 hf => ?_)
    refine rn_aload_n 27 dX5_yard_26 rfl rfl ?_
    refine rn_iconst 28 dX5_yard_27 rfl ic_0 ?_
    refine ro_ptI 31 dX5_yard_28 rfl f_X5_67 pn_5_8 ft_5_8 rfl rfl hf (fun h5 hf => ?_)
    refine rn_aload_n 32 dX5_yard_31 rfl rfl ?_
    refine ro_cVv (M' := M_X5_begins) (As := []) (o := o) (st := []) 35 (0, 0) dX5_yard_32 rfl l_X5_51 v_X5_begins ⟨Nat.le_of_ble_eq_true rfl, Nat.le_of_ble_eq_true rfl⟩ rfl rfl (Nat.le_of_ble_eq_true rfl) (Nat.le_of_ble_eq_true rfl) ⟨rfl, Nat.le_of_ble_eq_true rfl, Nat.le_of_ble_eq_true rfl⟩ hf (fun X z => ok_ck z) rfl (fun X z => T_X5_begins z) (fun h6 hf => ?_)
    refine rn_aload_n 36 dX5_yard_35 rfl rfl ?_
    refine ro_gtI 39 dX5_yard_36 rfl f_X5_145 ft_5_16 hf (fun v7 hf => ?_)
    exact rn_iret .int dX5_yard_39 rfl rfl (Or.inl rfl) (ok_some hf :)
  · refine rn_bipush 10 dX5_yard_8 rfl bp_m4 ?_
    exact rn_iret .int dX5_yard_10 rfl rfl (Or.inl rfl) (ok_some hf :)
theorem T_X4_isPlace {G : WG} {post : PO} {h : AH} {o : Nat} {x1 : Int32} (hf : OkA (F_X4_isPlace h o x1) (fun q => post (some q) h)) : Rn G M_X4_isPlace (0, 0) 0 [(0, .ref (ad G o)), (1, .int x1)] [] h post := by
  obtain ⟨_, hf⟩ := ok_ck2 hf
  refine rn_iload_n 1 dX4_isPlace_0 rfl rfl ?_
  refine ro_if_lt 19 4 dX4_isPlace_1 rfl rfl hf (fun hf => ?_) (fun hf => ?_)
  · refine rn_iconst 20 dX4_isPlace_19 rfl ic_0 ?_
    exact rn_iret .boolean dX4_isPlace_20 rfl rfl (Or.inl rfl) (ok_some hf :)
  · refine rn_iload_n 5 dX4_isPlace_4 rfl rfl ?_
    refine rn_aload_n 6 dX4_isPlace_5 rfl rfl ?_
    refine ro_gtR 9 dX4_isPlace_6 rfl f_X4_19 ft_4_1 hf (fun r1 hf => ?_)
    refine ro_gtI 12 dX4_isPlace_9 rfl f_X4_127 ft_2_0 hf (fun v2 hf => ?_)
    refine ro_icmp_ge 19 15 dX4_isPlace_12 rfl rfl hf (fun hf => ?_) (fun hf => ?_)
    · refine rn_iconst 20 dX4_isPlace_19 rfl ic_0 ?_
      exact rn_iret .boolean dX4_isPlace_20 rfl rfl (Or.inl rfl) (ok_some hf :)
    · refine rn_iconst 16 dX4_isPlace_15 rfl ic_1 ?_
      refine rn_goto 20 dX4_isPlace_16 rfl ?_
      exact rn_iret .boolean dX4_isPlace_20 rfl rfl (Or.inl rfl) (ok_some hf :)
theorem T_X4_place {G : WG} {post : PO} {h : AH} {o : Nat} {x1 : Int32} {x2 : Int32} (hf : OkA (F_X4_place h o x1 x2) (fun q => post (some q) h)) : Rn G M_X4_place (0, 0) 0 [(0, .ref (ad G o)), (1, .int x1), (2, .int x2)] [] h post := by
  obtain ⟨_, hf⟩ := ok_ck2 hf
  refine rn_aload_n 1 dX4_place_0 rfl rfl ?_
  refine rn_iload_n 2 dX4_place_1 rfl rfl ?_
  refine ro_cVp (M' := M_X4_isPlace) (As := [.int x1]) (o := o) (st := []) 5 (0, 0) dX4_place_2 rfl l_X4_86 v_X4_isPlace ⟨Nat.le_of_ble_eq_true rfl, Nat.le_of_ble_eq_true rfl⟩ rfl rfl (Nat.le_of_ble_eq_true rfl) (Nat.le_of_ble_eq_true rfl) ⟨rfl, Nat.le_of_ble_eq_true rfl, Nat.le_of_ble_eq_true rfl⟩ hf (fun X z => ok_ck z) rfl (fun X z => T_X4_isPlace z) (fun v1 hf => ?_)
  refine ro_if_ne 11 8 dX4_place_5 rfl rfl hf (fun hf => ?_) (fun hf => ?_)
  · refine rn_iload_n 12 dX4_place_11 rfl rfl ?_
    refine ro_arm hf (fun z0 hf => ?_) (fun z0 hf => ?_)
    · refine rn_tabIn 44 dX4_place_12 (by rw [z0]; decide) (by rw [z0]; decide) (by rw [z0]; rfl) rfl ?_
      refine rn_aload_n 45 dX4_place_44 rfl rfl ?_
      refine ro_gtR 48 dX4_place_45 rfl f_X4_29 ft_4_3 hf (fun r2 hf => ?_)
      refine ro_gtR 51 dX4_place_48 rfl f_X4_90 ft_3_0 hf (fun r3 hf => ?_)
      refine rn_iload_n 52 dX4_place_51 rfl rfl ?_
      refine ro_iaload 53 dX4_place_52 rfl hf (fun v4 hf => ?_)
      exact rn_iret .int dX4_place_53 rfl rfl (Or.inl rfl) (ok_some hf :)
    refine ro_arm hf (fun z1 hf => ?_) (fun z1 hf => ?_)
    · refine rn_tabIn 54 dX4_place_12 (by rw [z1]; decide) (by rw [z1]; decide) (by rw [z1]; rfl) rfl ?_
      refine rn_aload_n 55 dX4_place_54 rfl rfl ?_
      refine ro_gtR 58 dX4_place_55 rfl f_X4_29 ft_4_3 hf (fun r5 hf => ?_)
      refine ro_gtR 61 dX4_place_58 rfl f_X4_93 ft_3_1 hf (fun r6 hf => ?_)
      refine rn_iload_n 62 dX4_place_61 rfl rfl ?_
      refine ro_iaload 63 dX4_place_62 rfl hf (fun v7 hf => ?_)
      exact rn_iret .int dX4_place_63 rfl rfl (Or.inl rfl) (ok_some hf :)
    refine ro_arm hf (fun z2 hf => ?_) (fun z2 hf => ?_)
    · refine rn_tabIn 64 dX4_place_12 (by rw [z2]; decide) (by rw [z2]; decide) (by rw [z2]; rfl) rfl ?_
      refine rn_aload_n 65 dX4_place_64 rfl rfl ?_
      refine ro_gtR 68 dX4_place_65 rfl f_X4_19 ft_4_1 hf (fun r8 hf => ?_)
      refine ro_gtR 71 dX4_place_68 rfl f_X4_96 ft_2_4 hf (fun r9 hf => ?_)
      refine rn_iload_n 72 dX4_place_71 rfl rfl ?_
      refine ro_iaload 73 dX4_place_72 rfl hf (fun v10 hf => ?_)
      exact rn_iret .int dX4_place_73 rfl rfl (Or.inl rfl) (ok_some hf :)
    refine ro_arm hf (fun z3 hf => ?_) (fun z3 hf => ?_)
    · refine rn_tabIn 74 dX4_place_12 (by rw [z3]; decide) (by rw [z3]; decide) (by rw [z3]; rfl) rfl ?_
      refine rn_aload_n 75 dX4_place_74 rfl rfl ?_
      refine ro_gtR 78 dX4_place_75 rfl f_X4_29 ft_4_3 hf (fun r11 hf => ?_)
      refine ro_gtR 81 dX4_place_78 rfl f_X4_99 ft_3_2 hf (fun r12 hf => ?_)
      refine rn_iload_n 82 dX4_place_81 rfl rfl ?_
      refine ro_iaload 83 dX4_place_82 rfl hf (fun v13 hf => ?_)
      exact rn_iret .int dX4_place_83 rfl rfl (Or.inl rfl) (ok_some hf :)
    refine rn_tabOut 84 dX4_place_12 (tb_out4 z0 z1 z2 z3) rfl ?_
    refine rn_bipush 86 dX4_place_84 rfl bp_m3 ?_
    exact rn_iret .int dX4_place_86 rfl rfl (Or.inl rfl) (ok_some hf :)
  · refine rn_bipush 10 dX4_place_8 rfl bp_m2 ?_
    exact rn_iret .int dX4_place_10 rfl rfl (Or.inl rfl) (ok_some hf :)
theorem T_X5_isPlace {G : WG} {post : PO} {h : AH} {o : Nat} {x1 : Int32} (hf : OkA (F_X5_isPlace h o x1) (fun q => post (some q) h)) : Rn G M_X5_isPlace (0, 0) 0 [(0, .ref (ad G o)), (1, .int x1)] [] h post := by
  obtain ⟨_, hf⟩ := ok_ck2 hf
  refine rn_iload_n 1 dX5_isPlace_0 rfl rfl ?_
  refine rn_i2l 2 dX5_isPlace_1 rfl ?_
  refine rn_lconst 3 dX5_isPlace_2 rfl lc_0 ?_
  refine rn_aload_n 4 dX5_isPlace_3 rfl rfl ?_
  refine ro_gtR 7 dX5_isPlace_4 rfl f_X5_7 ft_5_0 hf (fun r1 hf => ?_)
  refine rn_iconst 8 dX5_isPlace_7 rfl ic_0 ?_
  refine ro_iaload 9 dX5_isPlace_8 rfl hf (fun v2 hf => ?_)
  refine rn_iconst 10 dX5_isPlace_9 rfl ic_1 ?_
  refine rn_isub 11 dX5_isPlace_10 rfl ?_
  refine rn_i2l 12 dX5_isPlace_11 rfl ?_
  refine ro_cSp (M' := M_X5_in) (As := [.long x1.toInt64, .long 0, .long (Int32.toInt64 (v2 - 1))]) (st := []) 15 (0, 0) dX5_isPlace_12 rfl l_X5_63 v_X5_in ⟨Nat.le_of_ble_eq_true rfl, Nat.le_of_ble_eq_true rfl⟩ rfl rfl (Nat.le_of_ble_eq_true rfl) (Nat.le_of_ble_eq_true rfl) ⟨rfl, Nat.le_of_ble_eq_true rfl, Nat.le_of_ble_eq_true rfl⟩ hf (fun X z => T_X5_in z) (fun v3 hf => ?_)
  exact ro_zret dX5_isPlace_15 rfl (Or.inl rfl) hf (fun v4 hf => (ok_some hf :))
theorem T_X5_place {G : WG} {post : PO} {h : AH} {o : Nat} {x1 : Int32} {x2 : Int32} (hf : OkA (F_X5_place h o x1 x2) (fun q => post (some q) h)) : Rn G M_X5_place (0, 0) 0 [(0, .ref (ad G o)), (1, .int x1), (2, .int x2)] [] h post := by
  obtain ⟨_, hf⟩ := ok_ck2 hf
  refine rn_aload_n 1 dX5_place_0 rfl rfl ?_
  refine rn_iload_n 2 dX5_place_1 rfl rfl ?_
  refine ro_cVp (M' := M_X5_isPlace) (As := [.int x1]) (o := o) (st := []) 5 (0, 0) dX5_place_2 rfl l_X5_163 v_X5_isPlace ⟨Nat.le_of_ble_eq_true rfl, Nat.le_of_ble_eq_true rfl⟩ rfl rfl (Nat.le_of_ble_eq_true rfl) (Nat.le_of_ble_eq_true rfl) ⟨rfl, Nat.le_of_ble_eq_true rfl, Nat.le_of_ble_eq_true rfl⟩ hf (fun X z => ok_ck z) rfl (fun X z => T_X5_isPlace z) (fun v1 hf => ?_)
  refine ro_if_ne 11 8 dX5_place_5 rfl rfl hf (fun hf => ?_) (fun hf => ?_)
  · refine rn_iload_n 12 dX5_place_11 rfl rfl ?_
    refine ro_arm hf (fun z0 hf => ?_) (fun z0 hf => ?_)
    · refine rn_tabIn 44 dX5_place_12 (by rw [z0]; decide) (by rw [z0]; decide) (by rw [z0]; rfl) rfl ?_
      refine rn_aload_n 45 dX5_place_44 rfl rfl ?_
      refine ro_gtR 48 dX5_place_45 rfl f_X5_16 ft_5_2 hf (fun r2 hf => ?_)
      refine rn_iconst 49 dX5_place_48 rfl ic_2 ?_
      refine rn_iload_n 50 dX5_place_49 rfl rfl ?_
      refine rn_iadd 51 dX5_place_50 rfl ?_
      refine ro_iaload 52 dX5_place_51 rfl hf (fun v3 hf => ?_)
      exact rn_iret .int dX5_place_52 rfl rfl (Or.inl rfl) (ok_some hf :)
    refine ro_arm hf (fun z1 hf => ?_) (fun z1 hf => ?_)
    · refine rn_tabIn 53 dX5_place_12 (by rw [z1]; decide) (by rw [z1]; decide) (by rw [z1]; rfl) rfl ?_
      refine rn_aload_n 54 dX5_place_53 rfl rfl ?_
      refine ro_gtR 57 dX5_place_54 rfl f_X5_16 ft_5_2 hf (fun r4 hf => ?_)
      refine rn_bipush 59 dX5_place_57 rfl bp_10 ?_
      refine rn_iload_n 60 dX5_place_59 rfl rfl ?_
      refine rn_iadd 61 dX5_place_60 rfl ?_
      refine ro_iaload 62 dX5_place_61 rfl hf (fun v5 hf => ?_)
      exact rn_iret .int dX5_place_62 rfl rfl (Or.inl rfl) (ok_some hf :)
    refine ro_arm hf (fun z2 hf => ?_) (fun z2 hf => ?_)
    · refine rn_tabIn 63 dX5_place_12 (by rw [z2]; decide) (by rw [z2]; decide) (by rw [z2]; rfl) rfl ?_
      refine rn_aload_n 64 dX5_place_63 rfl rfl ?_
      refine ro_gtR 67 dX5_place_64 rfl f_X5_7 ft_5_0 hf (fun r6 hf => ?_)
      refine rn_bipush 69 dX5_place_67 rfl bp_17 ?_
      refine rn_iload_n 70 dX5_place_69 rfl rfl ?_
      refine rn_iadd 71 dX5_place_70 rfl ?_
      refine ro_iaload 72 dX5_place_71 rfl hf (fun v7 hf => ?_)
      exact rn_iret .int dX5_place_72 rfl rfl (Or.inl rfl) (ok_some hf :)
    refine ro_arm hf (fun z3 hf => ?_) (fun z3 hf => ?_)
    · refine rn_tabIn 73 dX5_place_12 (by rw [z3]; decide) (by rw [z3]; decide) (by rw [z3]; rfl) rfl ?_
      refine rn_aload_n 74 dX5_place_73 rfl rfl ?_
      refine ro_gtR 77 dX5_place_74 rfl f_X5_16 ft_5_2 hf (fun r8 hf => ?_)
      refine rn_bipush 79 dX5_place_77 rfl bp_18 ?_
      refine rn_iload_n 80 dX5_place_79 rfl rfl ?_
      refine rn_iadd 81 dX5_place_80 rfl ?_
      refine ro_iaload 82 dX5_place_81 rfl hf (fun v9 hf => ?_)
      exact rn_iret .int dX5_place_82 rfl rfl (Or.inl rfl) (ok_some hf :)
    refine rn_tabOut 83 dX5_place_12 (tb_out4 z0 z1 z2 z3) rfl ?_
    refine rn_bipush 85 dX5_place_83 rfl bp_m3 ?_
    exact rn_iret .int dX5_place_85 rfl rfl (Or.inl rfl) (ok_some hf :)
  · refine rn_bipush 10 dX5_place_8 rfl bp_m2 ?_
    exact rn_iret .int dX5_place_10 rfl rfl (Or.inl rfl) (ok_some hf :)
theorem T_X4_isHen {G : WG} {post : PO} {h : AH} {o : Nat} {x1 : Int32} (hf : OkA (F_X4_isHen h o x1) (fun q => post (some q) h)) : Rn G M_X4_isHen (0, 0) 0 [(0, .ref (ad G o)), (1, .int x1)] [] h post := by
  obtain ⟨_, hf⟩ := ok_ck2 hf
  refine rn_iload_n 1 dX4_isHen_0 rfl rfl ?_
  refine ro_if_lt 19 4 dX4_isHen_1 rfl rfl hf (fun hf => ?_) (fun hf => ?_)
  · refine rn_iconst 20 dX4_isHen_19 rfl ic_0 ?_
    exact rn_iret .boolean dX4_isHen_20 rfl rfl (Or.inl rfl) (ok_some hf :)
  · refine rn_iload_n 5 dX4_isHen_4 rfl rfl ?_
    refine rn_aload_n 6 dX4_isHen_5 rfl rfl ?_
    refine ro_gtR 9 dX4_isHen_6 rfl f_X4_19 ft_4_1 hf (fun r1 hf => ?_)
    refine ro_gtI 12 dX4_isHen_9 rfl f_X4_177 ft_2_1 hf (fun v2 hf => ?_)
    refine ro_icmp_ge 19 15 dX4_isHen_12 rfl rfl hf (fun hf => ?_) (fun hf => ?_)
    · refine rn_iconst 20 dX4_isHen_19 rfl ic_0 ?_
      exact rn_iret .boolean dX4_isHen_20 rfl rfl (Or.inl rfl) (ok_some hf :)
    · refine rn_iconst 16 dX4_isHen_15 rfl ic_1 ?_
      refine rn_goto 20 dX4_isHen_16 rfl ?_
      exact rn_iret .boolean dX4_isHen_20 rfl rfl (Or.inl rfl) (ok_some hf :)
theorem T_X4_hen {G : WG} {post : PO} {h : AH} {o : Nat} {x1 : Int32} {x2 : Int32} (hf : OkA (F_X4_hen h o x1 x2) (fun q => post (some q) h)) : Rn G M_X4_hen (0, 0) 0 [(0, .ref (ad G o)), (1, .int x1), (2, .int x2)] [] h post := by
  obtain ⟨_, hf⟩ := ok_ck2 hf
  refine rn_aload_n 1 dX4_hen_0 rfl rfl ?_
  refine rn_iload_n 2 dX4_hen_1 rfl rfl ?_
  refine ro_cVp (M' := M_X4_isHen) (As := [.int x1]) (o := o) (st := []) 5 (0, 0) dX4_hen_2 rfl l_X4_102 v_X4_isHen ⟨Nat.le_of_ble_eq_true rfl, Nat.le_of_ble_eq_true rfl⟩ rfl rfl (Nat.le_of_ble_eq_true rfl) (Nat.le_of_ble_eq_true rfl) ⟨rfl, Nat.le_of_ble_eq_true rfl, Nat.le_of_ble_eq_true rfl⟩ hf (fun X z => ok_ck z) rfl (fun X z => T_X4_isHen z) (fun v1 hf => ?_)
  refine ro_if_ne 11 8 dX4_hen_5 rfl rfl hf (fun hf => ?_) (fun hf => ?_)
  · refine rn_iload_n 12 dX4_hen_11 rfl rfl ?_
    refine ro_arm hf (fun z0 hf => ?_) (fun z0 hf => ?_)
    · refine rn_tabIn 48 dX4_hen_12 (by rw [z0]; decide) (by rw [z0]; decide) (by rw [z0]; rfl) rfl ?_
      refine rn_aload_n 49 dX4_hen_48 rfl rfl ?_
      refine ro_gtR 52 dX4_hen_49 rfl f_X4_29 ft_4_3 hf (fun r2 hf => ?_)
      refine ro_gtR 55 dX4_hen_52 rfl f_X4_105 ft_3_4 hf (fun r3 hf => ?_)
      refine rn_iload_n 56 dX4_hen_55 rfl rfl ?_
      refine ro_iaload 57 dX4_hen_56 rfl hf (fun v4 hf => ?_)
      exact rn_iret .int dX4_hen_57 rfl rfl (Or.inl rfl) (ok_some hf :)
    refine ro_arm hf (fun z1 hf => ?_) (fun z1 hf => ?_)
    · refine rn_tabIn 58 dX4_hen_12 (by rw [z1]; decide) (by rw [z1]; decide) (by rw [z1]; rfl) rfl ?_
      refine rn_aload_n 59 dX4_hen_58 rfl rfl ?_
      refine ro_gtR 62 dX4_hen_59 rfl f_X4_29 ft_4_3 hf (fun r5 hf => ?_)
      refine ro_gtR 65 dX4_hen_62 rfl f_X4_108 ft_3_5 hf (fun r6 hf => ?_)
      refine rn_iload_n 66 dX4_hen_65 rfl rfl ?_
      refine ro_iaload 67 dX4_hen_66 rfl hf (fun v7 hf => ?_)
      exact rn_iret .int dX4_hen_67 rfl rfl (Or.inl rfl) (ok_some hf :)
    refine ro_arm hf (fun z2 hf => ?_) (fun z2 hf => ?_)
    · refine rn_tabIn 68 dX4_hen_12 (by rw [z2]; decide) (by rw [z2]; decide) (by rw [z2]; rfl) rfl ?_
      refine rn_aload_n 69 dX4_hen_68 rfl rfl ?_
      refine ro_gtR 72 dX4_hen_69 rfl f_X4_29 ft_4_3 hf (fun r8 hf => ?_)
      refine ro_gtR 75 dX4_hen_72 rfl f_X4_111 ft_3_6 hf (fun r9 hf => ?_)
      refine rn_iload_n 76 dX4_hen_75 rfl rfl ?_
      refine ro_iaload 77 dX4_hen_76 rfl hf (fun v10 hf => ?_)
      exact rn_iret .int dX4_hen_77 rfl rfl (Or.inl rfl) (ok_some hf :)
    refine ro_arm hf (fun z3 hf => ?_) (fun z3 hf => ?_)
    · refine rn_tabIn 78 dX4_hen_12 (by rw [z3]; decide) (by rw [z3]; decide) (by rw [z3]; rfl) rfl ?_
      refine rn_aload_n 79 dX4_hen_78 rfl rfl ?_
      refine ro_gtR 82 dX4_hen_79 rfl f_X4_29 ft_4_3 hf (fun r11 hf => ?_)
      refine ro_gtR 85 dX4_hen_82 rfl f_X4_114 ft_3_7 hf (fun r12 hf => ?_)
      refine rn_iload_n 86 dX4_hen_85 rfl rfl ?_
      refine ro_iaload 87 dX4_hen_86 rfl hf (fun v13 hf => ?_)
      exact rn_iret .int dX4_hen_87 rfl rfl (Or.inl rfl) (ok_some hf :)
    refine ro_arm hf (fun z4 hf => ?_) (fun z4 hf => ?_)
    · refine rn_tabIn 88 dX4_hen_12 (by rw [z4]; decide) (by rw [z4]; decide) (by rw [z4]; rfl) rfl ?_
      refine rn_aload_n 89 dX4_hen_88 rfl rfl ?_
      refine ro_gtR 92 dX4_hen_89 rfl f_X4_29 ft_4_3 hf (fun r14 hf => ?_)
      refine ro_gtR 95 dX4_hen_92 rfl f_X4_117 ft_3_8 hf (fun r15 hf => ?_)
      refine rn_iload_n 96 dX4_hen_95 rfl rfl ?_
      refine ro_iaload 97 dX4_hen_96 rfl hf (fun v16 hf => ?_)
      exact rn_iret .int dX4_hen_97 rfl rfl (Or.inl rfl) (ok_some hf :)
    refine rn_tabOut 98 dX4_hen_12 (tb_out5 z0 z1 z2 z3 z4) rfl ?_
    refine rn_bipush 100 dX4_hen_98 rfl bp_m3 ?_
    exact rn_iret .int dX4_hen_100 rfl rfl (Or.inl rfl) (ok_some hf :)
  · refine rn_bipush 10 dX4_hen_8 rfl bp_m2 ?_
    exact rn_iret .int dX4_hen_10 rfl rfl (Or.inl rfl) (ok_some hf :)
theorem T_X5_isHen {G : WG} {post : PO} {h : AH} {o : Nat} {x1 : Int32} (hf : OkA (F_X5_isHen h o x1) (fun q => post (some q) h)) : Rn G M_X5_isHen (0, 0) 0 [(0, .ref (ad G o)), (1, .int x1)] [] h post := by
  obtain ⟨_, hf⟩ := ok_ck2 hf
  refine rn_iload_n 1 dX5_isHen_0 rfl rfl ?_
  refine rn_i2l 2 dX5_isHen_1 rfl ?_
  refine rn_lconst 3 dX5_isHen_2 rfl lc_0 ?_
  refine rn_aload_n 4 dX5_isHen_3 rfl rfl ?_
  refine ro_gtR 7 dX5_isHen_4 rfl f_X5_7 ft_5_0 hf (fun r1 hf => ?_)
  refine rn_bipush 9 dX5_isHen_7 rfl bp_25 ?_
  refine ro_iaload 10 dX5_isHen_9 rfl hf (fun v2 hf => ?_)
  refine rn_iconst 11 dX5_isHen_10 rfl ic_1 ?_
  refine rn_isub 12 dX5_isHen_11 rfl ?_
  refine rn_i2l 13 dX5_isHen_12 rfl ?_
  refine ro_cSp (M' := M_X5_in) (As := [.long x1.toInt64, .long 0, .long (Int32.toInt64 (v2 - 1))]) (st := []) 16 (0, 0) dX5_isHen_13 rfl l_X5_63 v_X5_in ⟨Nat.le_of_ble_eq_true rfl, Nat.le_of_ble_eq_true rfl⟩ rfl rfl (Nat.le_of_ble_eq_true rfl) (Nat.le_of_ble_eq_true rfl) ⟨rfl, Nat.le_of_ble_eq_true rfl, Nat.le_of_ble_eq_true rfl⟩ hf (fun X z => T_X5_in z) (fun v3 hf => ?_)
  exact ro_zret dX5_isHen_16 rfl (Or.inl rfl) hf (fun v4 hf => (ok_some hf :))
theorem T_X5_hen {G : WG} {post : PO} {h : AH} {o : Nat} {x1 : Int32} {x2 : Int32} (hf : OkA (F_X5_hen h o x1 x2) (fun q => post (some q) h)) : Rn G M_X5_hen (0, 0) 0 [(0, .ref (ad G o)), (1, .int x1), (2, .int x2)] [] h post := by
  obtain ⟨_, hf⟩ := ok_ck2 hf
  refine rn_aload_n 1 dX5_hen_0 rfl rfl ?_
  refine rn_iload_n 2 dX5_hen_1 rfl rfl ?_
  refine ro_cVp (M' := M_X5_isHen) (As := [.int x1]) (o := o) (st := []) 5 (0, 0) dX5_hen_2 rfl l_X5_166 v_X5_isHen ⟨Nat.le_of_ble_eq_true rfl, Nat.le_of_ble_eq_true rfl⟩ rfl rfl (Nat.le_of_ble_eq_true rfl) (Nat.le_of_ble_eq_true rfl) ⟨rfl, Nat.le_of_ble_eq_true rfl, Nat.le_of_ble_eq_true rfl⟩ hf (fun X z => ok_ck z) rfl (fun X z => T_X5_isHen z) (fun v1 hf => ?_)
  refine ro_if_ne 11 8 dX5_hen_5 rfl rfl hf (fun hf => ?_) (fun hf => ?_)
  · refine rn_iload_n 12 dX5_hen_11 rfl rfl ?_
    refine ro_arm hf (fun z0 hf => ?_) (fun z0 hf => ?_)
    · refine rn_tabIn 48 dX5_hen_12 (by rw [z0]; decide) (by rw [z0]; decide) (by rw [z0]; rfl) rfl ?_
      refine rn_aload_n 49 dX5_hen_48 rfl rfl ?_
      refine ro_gtR 52 dX5_hen_49 rfl f_X5_7 ft_5_0 hf (fun r2 hf => ?_)
      refine rn_bipush 54 dX5_hen_52 rfl bp_26 ?_
      refine rn_iload_n 55 dX5_hen_54 rfl rfl ?_
      refine rn_iadd 56 dX5_hen_55 rfl ?_
      refine ro_iaload 57 dX5_hen_56 rfl hf (fun v3 hf => ?_)
      exact rn_iret .int dX5_hen_57 rfl rfl (Or.inl rfl) (ok_some hf :)
    refine ro_arm hf (fun z1 hf => ?_) (fun z1 hf => ?_)
    · refine rn_tabIn 58 dX5_hen_12 (by rw [z1]; decide) (by rw [z1]; decide) (by rw [z1]; rfl) rfl ?_
      refine rn_aload_n 59 dX5_hen_58 rfl rfl ?_
      refine ro_gtR 62 dX5_hen_59 rfl f_X5_7 ft_5_0 hf (fun r4 hf => ?_)
      refine rn_bipush 64 dX5_hen_62 rfl bp_31 ?_
      refine rn_iload_n 65 dX5_hen_64 rfl rfl ?_
      refine rn_iadd 66 dX5_hen_65 rfl ?_
      refine ro_iaload 67 dX5_hen_66 rfl hf (fun v5 hf => ?_)
      exact rn_iret .int dX5_hen_67 rfl rfl (Or.inl rfl) (ok_some hf :)
    refine ro_arm hf (fun z2 hf => ?_) (fun z2 hf => ?_)
    · refine rn_tabIn 68 dX5_hen_12 (by rw [z2]; decide) (by rw [z2]; decide) (by rw [z2]; rfl) rfl ?_
      refine rn_aload_n 69 dX5_hen_68 rfl rfl ?_
      refine ro_gtR 72 dX5_hen_69 rfl f_X5_16 ft_5_2 hf (fun r6 hf => ?_)
      refine rn_bipush 74 dX5_hen_72 rfl bp_34 ?_
      refine rn_iload_n 75 dX5_hen_74 rfl rfl ?_
      refine rn_iadd 76 dX5_hen_75 rfl ?_
      refine ro_iaload 77 dX5_hen_76 rfl hf (fun v7 hf => ?_)
      exact rn_iret .int dX5_hen_77 rfl rfl (Or.inl rfl) (ok_some hf :)
    refine ro_arm hf (fun z3 hf => ?_) (fun z3 hf => ?_)
    · refine rn_tabIn 78 dX5_hen_12 (by rw [z3]; decide) (by rw [z3]; decide) (by rw [z3]; rfl) rfl ?_
      refine rn_aload_n 79 dX5_hen_78 rfl rfl ?_
      refine ro_gtR 82 dX5_hen_79 rfl f_X5_16 ft_5_2 hf (fun r8 hf => ?_)
      refine rn_bipush 84 dX5_hen_82 rfl bp_39 ?_
      refine rn_iload_n 85 dX5_hen_84 rfl rfl ?_
      refine rn_iadd 86 dX5_hen_85 rfl ?_
      refine ro_iaload 87 dX5_hen_86 rfl hf (fun v9 hf => ?_)
      exact rn_iret .int dX5_hen_87 rfl rfl (Or.inl rfl) (ok_some hf :)
    refine ro_arm hf (fun z4 hf => ?_) (fun z4 hf => ?_)
    · refine rn_tabIn 88 dX5_hen_12 (by rw [z4]; decide) (by rw [z4]; decide) (by rw [z4]; rfl) rfl ?_
      refine rn_aload_n 89 dX5_hen_88 rfl rfl ?_
      refine ro_gtR 92 dX5_hen_89 rfl f_X5_16 ft_5_2 hf (fun r10 hf => ?_)
      refine rn_bipush 94 dX5_hen_92 rfl bp_44 ?_
      refine rn_iload_n 95 dX5_hen_94 rfl rfl ?_
      refine rn_iadd 96 dX5_hen_95 rfl ?_
      refine ro_iaload 97 dX5_hen_96 rfl hf (fun v11 hf => ?_)
      exact rn_iret .int dX5_hen_97 rfl rfl (Or.inl rfl) (ok_some hf :)
    refine rn_tabOut 98 dX5_hen_12 (tb_out5 z0 z1 z2 z3 z4) rfl ?_
    refine rn_bipush 100 dX5_hen_98 rfl bp_m3 ?_
    exact rn_iret .int dX5_hen_100 rfl rfl (Or.inl rfl) (ok_some hf :)
  · refine rn_bipush 10 dX5_hen_8 rfl bp_m2 ?_
    exact rn_iret .int dX5_hen_10 rfl rfl (Or.inl rfl) (ok_some hf :)
theorem T_X4_news {G : WG} {post : PO} {h : AH} {o : Nat} {x1 : Int32} (hf : OkA (F_X4_news h o x1) (fun q => post (some q) h)) : Rn G M_X4_news (0, 0) 0 [(0, .ref (ad G o)), (1, .int x1)] [] h post := by
  obtain ⟨_, hf⟩ := ok_ck2 hf
  refine rn_iload_n 1 dX4_news_0 rfl rfl ?_
  refine ro_if_lt 10 4 dX4_news_1 rfl rfl hf (fun hf => ?_) (fun hf => ?_)
  · refine rn_bipush 12 dX4_news_10 rfl bp_m3 ?_
    exact rn_iret .int dX4_news_12 rfl rfl (Or.inl rfl) (ok_some hf :)
  · refine rn_iload_n 5 dX4_news_4 rfl rfl ?_
    refine rn_bipush 7 dX4_news_5 rfl bp_14 ?_
    refine ro_icmp_lt 13 10 dX4_news_7 rfl rfl hf (fun hf => ?_) (fun hf => ?_)
    · refine rn_aload_n 14 dX4_news_13 rfl rfl ?_
      refine ro_gtR 17 dX4_news_14 rfl f_X4_19 ft_4_1 hf (fun r1 hf => ?_)
      refine ro_gtR 20 dX4_news_17 rfl f_X4_120 ft_2_7 hf (fun r2 hf => ?_)
      refine rn_iload_n 21 dX4_news_20 rfl rfl ?_
      refine ro_iaload 22 dX4_news_21 rfl hf (fun v3 hf => ?_)
      exact rn_iret .int dX4_news_22 rfl rfl (Or.inl rfl) (ok_some hf :)
    · refine rn_bipush 12 dX4_news_10 rfl bp_m3 ?_
      exact rn_iret .int dX4_news_12 rfl rfl (Or.inl rfl) (ok_some hf :)
theorem T_X5_news {G : WG} {post : PO} {h : AH} {o : Nat} {x1 : Int32} (hf : OkA (F_X5_news h o x1) (fun q => post (some q) h)) : Rn G M_X5_news (0, 0) 0 [(0, .ref (ad G o)), (1, .int x1)] [] h post := by
  obtain ⟨_, hf⟩ := ok_ck2 hf
  refine rn_iload_n 1 dX5_news_0 rfl rfl ?_
  refine rn_i2l 2 dX5_news_1 rfl ?_
  refine rn_lconst 3 dX5_news_2 rfl lc_0 ?_
  refine rn_ldc2 6 dX5_news_3 rfl k_X5_169 ?_
  refine ro_cSp (M' := M_X5_in) (As := [.long x1.toInt64, .long 0, .long 13]) (st := []) 9 (0, 0) dX5_news_6 rfl l_X5_63 v_X5_in ⟨Nat.le_of_ble_eq_true rfl, Nat.le_of_ble_eq_true rfl⟩ rfl rfl (Nat.le_of_ble_eq_true rfl) (Nat.le_of_ble_eq_true rfl) ⟨rfl, Nat.le_of_ble_eq_true rfl, Nat.le_of_ble_eq_true rfl⟩ hf (fun X z => T_X5_in z) (fun v1 hf => ?_)
  refine ro_if_eq 24 12 dX5_news_9 rfl rfl hf (fun hf => ?_) (fun hf => ?_)
  · refine rn_bipush 26 dX5_news_24 rfl bp_m3 ?_
    exact rn_iret .int dX5_news_26 rfl rfl (Or.inl rfl) (ok_some hf :)
  · refine rn_aload_n 13 dX5_news_12 rfl rfl ?_
    refine ro_gtR 16 dX5_news_13 rfl f_X5_7 ft_5_0 hf (fun r2 hf => ?_)
    refine rn_bipush 18 dX5_news_16 rfl bp_36 ?_
    refine rn_iload_n 19 dX5_news_18 rfl rfl ?_
    refine rn_iadd 20 dX5_news_19 rfl ?_
    refine ro_iaload 21 dX5_news_20 rfl hf (fun v3 hf => ?_)
    refine rn_goto 26 dX5_news_21 rfl ?_
    exact rn_iret .int dX5_news_26 rfl rfl (Or.inl rfl) (ok_some hf :)
theorem T_X4_isUnder {G : WG} {post : PO} {h : AH} {x0 : Int32} {x1 : Int32} (hf : OkA (F_X4_isUnder h x0 x1) (fun q => post (some q) h)) : Rn G M_X4_isUnder (0, 0) 0 [(0, .int x0), (1, .int x1)] [] h post := by
  refine rn_iload_n 1 dX4_isUnder_0 rfl rfl ?_
  refine ro_if_ne 6 4 dX4_isUnder_1 rfl rfl hf (fun hf => ?_) (fun hf => ?_)
  · refine rn_iload_n 7 dX4_isUnder_6 rfl rfl ?_
    refine rn_iconst 8 dX4_isUnder_7 rfl ic_1 ?_
    refine ro_icmp_ne 22 11 dX4_isUnder_8 rfl rfl hf (fun hf => ?_) (fun hf => ?_)
    · refine rn_iload_n 23 dX4_isUnder_22 rfl rfl ?_
      refine rn_iload_n 24 dX4_isUnder_23 rfl rfl ?_
      refine rn_iconst 25 dX4_isUnder_24 rfl ic_1 ?_
      refine rn_iadd 26 dX4_isUnder_25 rfl ?_
      refine ro_icmp_ne 33 29 dX4_isUnder_26 rfl rfl hf (fun hf => ?_) (fun hf => ?_)
      · refine rn_iconst 34 dX4_isUnder_33 rfl ic_0 ?_
        exact rn_iret .boolean dX4_isUnder_34 rfl rfl (Or.inl rfl) (ok_some hf :)
      · refine rn_iconst 30 dX4_isUnder_29 rfl ic_1 ?_
        refine rn_goto 34 dX4_isUnder_30 rfl ?_
        exact rn_iret .boolean dX4_isUnder_34 rfl rfl (Or.inl rfl) (ok_some hf :)
    · refine rn_iload_n 12 dX4_isUnder_11 rfl rfl ?_
      refine rn_iconst 13 dX4_isUnder_12 rfl ic_3 ?_
      refine ro_icmp_eq 20 16 dX4_isUnder_13 rfl rfl hf (fun hf => ?_) (fun hf => ?_)
      · refine rn_iconst 21 dX4_isUnder_20 rfl ic_0 ?_
        exact rn_iret .boolean dX4_isUnder_21 rfl rfl (Or.inl rfl) (ok_some hf :)
      · refine rn_iconst 17 dX4_isUnder_16 rfl ic_1 ?_
        refine rn_goto 21 dX4_isUnder_17 rfl ?_
        exact rn_iret .boolean dX4_isUnder_21 rfl rfl (Or.inl rfl) (ok_some hf :)
  · refine rn_iconst 5 dX4_isUnder_4 rfl ic_1 ?_
    exact rn_iret .boolean dX4_isUnder_5 rfl rfl (Or.inl rfl) (ok_some hf :)
theorem T_X3_likes {G : WG} {post : PO} {h : AH} {o : Nat} {o1 : Nat} {x2 : Int32} {x3 : Int32} (hf : OkA (F_X3_likes h o o1 x2 x3) (fun q => post (some q) h)) : Rn G M_X3_likes (0, 0) 0 [(0, .ref (ad G o)), (1, .ref (ad G o1)), (2, .int x2), (3, .int x3)] [] h post := by
  obtain ⟨_, hf⟩ := ok_ck2 hf
  refine rn_iconst 1 dX3_likes_0 rfl ic_2 ?_
  refine rn_aload_n 2 dX3_likes_1 rfl rfl ?_
  refine ro_gtR 5 dX3_likes_2 rfl f_X3_15 ft_3_1 hf (fun r1 hf => ?_)
  refine rn_iload_n 6 dX3_likes_5 rfl rfl ?_
  refine ro_iaload 7 dX3_likes_6 rfl hf (fun v2 hf => ?_)
  refine rn_imul 8 dX3_likes_7 rfl ?_
  refine rn_aload_n 9 dX3_likes_8 rfl rfl ?_
  refine ro_gtR 12 dX3_likes_9 rfl f_X3_100 ft_2_4 hf (fun r3 hf => ?_)
  refine rn_iload_n 13 dX3_likes_12 rfl rfl ?_
  refine ro_iaload 14 dX3_likes_13 rfl hf (fun v4 hf => ?_)
  refine rn_iadd 15 dX3_likes_14 rfl ?_
  refine rn_istore (lv' := [(0, .ref (ad G o)), (1, .ref (ad G o1)), (2, .int x2), (3, .int x3), (4, .int ((2 * v2) + v4))]) 17 dX3_likes_15 rfl (Nat.le_of_ble_eq_true rfl) rfl ?_
  refine rn_aload_n 18 dX3_likes_17 rfl rfl ?_
  refine ro_gtR 21 dX3_likes_18 rfl f_X3_30 ft_3_6 hf (fun r5 hf => ?_)
  refine rn_iload_n 22 dX3_likes_21 rfl rfl ?_
  refine ro_iaload 23 dX3_likes_22 rfl hf (fun v6 hf => ?_)
  refine rn_iload_n 24 dX3_likes_23 rfl rfl ?_
  refine ro_reg (X := (fun q7 : Int32 => Rn G M_X3_likes (0, 0) 32 [(0, .ref (ad G o)), (1, .ref (ad G o1)), (2, .int x2), (3, .int x3), (4, .int ((2 * v2) + v4))] [.int q7] h post)) hf (fun q7 hf => ?_) (fun hf => ?_)
  · refine rn_istore (lv' := [(0, .ref (ad G o)), (1, .ref (ad G o1)), (2, .int x2), (3, .int x3), (4, .int ((2 * v2) + v4)), (5, .int q7)]) 34 dX3_likes_32 rfl (Nat.le_of_ble_eq_true rfl) rfl ?_
    refine rn_aload_n 35 dX3_likes_34 rfl rfl ?_
    refine ro_gtR 38 dX3_likes_35 rfl f_X3_24 ft_3_4 hf (fun r8 hf => ?_)
    refine rn_iload_n 39 dX3_likes_38 rfl rfl ?_
    refine ro_iaload 40 dX3_likes_39 rfl hf (fun v9 hf => ?_)
    refine ro_arm hf (fun z0 hf => ?_) (fun z0 hf => ?_)
    · refine rn_tabIn 68 dX3_likes_40 (by rw [z0]; decide) (by rw [z0]; decide) (by rw [z0]; rfl) rfl ?_
      refine rn_iload 70 dX3_likes_68 rfl rfl ?_
      refine ro_if_eq 85 73 dX3_likes_70 rfl rfl hf (fun hf => ?_) (fun hf => ?_)
      · refine rn_iload 87 dX3_likes_85 rfl rfl ?_
        exact rn_iret .int dX3_likes_87 rfl rfl (Or.inl rfl) (ok_some hf :)
      · refine rn_iload 75 dX3_likes_73 rfl rfl ?_
        refine rn_aload_n 76 dX3_likes_75 rfl rfl ?_
        refine ro_gtR 79 dX3_likes_76 rfl f_X3_27 ft_3_5 hf (fun r10 hf => ?_)
        refine rn_iload_n 80 dX3_likes_79 rfl rfl ?_
        refine ro_iaload 81 dX3_likes_80 rfl hf (fun v11 hf => ?_)
        refine rn_isub 82 dX3_likes_81 rfl ?_
        refine rn_goto 87 dX3_likes_82 rfl ?_
        exact rn_iret .int dX3_likes_87 rfl rfl (Or.inl rfl) (ok_some hf :)
    refine ro_arm hf (fun z1 hf => ?_) (fun z1 hf => ?_)
    · refine rn_tabIn 88 dX3_likes_40 (by rw [z1]; decide) (by rw [z1]; decide) (by rw [z1]; rfl) rfl ?_
      refine rn_iload 90 dX3_likes_88 rfl rfl ?_
      refine ro_if_eq 108 93 dX3_likes_90 rfl rfl hf (fun hf => ?_) (fun hf => ?_)
      · refine rn_iload 110 dX3_likes_108 rfl rfl ?_
        exact rn_iret .int dX3_likes_110 rfl rfl (Or.inl rfl) (ok_some hf :)
      · refine rn_iload 95 dX3_likes_93 rfl rfl ?_
        refine rn_aload_n 96 dX3_likes_95 rfl rfl ?_
        refine ro_gtR 99 dX3_likes_96 rfl f_X3_27 ft_3_5 hf (fun r12 hf => ?_)
        refine rn_iload_n 100 dX3_likes_99 rfl rfl ?_
        refine ro_iaload 101 dX3_likes_100 rfl hf (fun v13 hf => ?_)
        refine rn_isub 102 dX3_likes_101 rfl ?_
        refine rn_bipush 104 dX3_likes_102 rfl bp_9 ?_
        refine rn_iadd 105 dX3_likes_104 rfl ?_
        refine rn_goto 110 dX3_likes_105 rfl ?_
        exact rn_iret .int dX3_likes_110 rfl rfl (Or.inl rfl) (ok_some hf :)
    refine ro_arm hf (fun z2 hf => ?_) (fun z2 hf => ?_)
    · refine rn_tabIn 111 dX3_likes_40 (by rw [z2]; decide) (by rw [z2]; decide) (by rw [z2]; rfl) rfl ?_
      refine rn_aload_n 112 dX3_likes_111 rfl rfl ?_
      refine ro_gtR 115 dX3_likes_112 rfl f_X3_100 ft_2_4 hf (fun r14 hf => ?_)
      refine rn_iload_n 116 dX3_likes_115 rfl rfl ?_
      refine ro_iaload 117 dX3_likes_116 rfl hf (fun v15 hf => ?_)
      refine rn_aload_n 118 dX3_likes_117 rfl rfl ?_
      refine ro_gtI 121 dX3_likes_118 rfl f_X3_57 ft_3_9 hf (fun v16 hf => ?_)
      refine rn_aload_n 122 dX3_likes_121 rfl rfl ?_
      refine ro_gtR 125 dX3_likes_122 rfl f_X3_27 ft_3_5 hf (fun r17 hf => ?_)
      refine rn_iload_n 126 dX3_likes_125 rfl rfl ?_
      refine ro_iaload 127 dX3_likes_126 rfl hf (fun v18 hf => ?_)
      refine rn_imul 128 dX3_likes_127 rfl ?_
      refine rn_iadd 129 dX3_likes_128 rfl ?_
      refine rn_bipush 131 dX3_likes_129 rfl bp_10 ?_
      refine ro_irem 132 dX3_likes_131 rfl hf (fun v19 hf => ?_)
      exact rn_iret .int dX3_likes_132 rfl rfl (Or.inl rfl) (ok_some hf :)
    refine rn_tabOut 133 dX3_likes_40 (tb_out3 z0 z1 z2) rfl ?_
    refine rn_aload_n 134 dX3_likes_133 rfl rfl ?_
    refine ro_gtI 137 dX3_likes_134 rfl f_X3_93 ft_2_0 hf (fun v20 hf => ?_)
    refine ro_if_le 159 140 dX3_likes_137 rfl rfl hf (fun hf => ?_) (fun hf => ?_)
    · refine rn_iconst 160 dX3_likes_159 rfl ic_0 ?_
      exact rn_iret .int dX3_likes_160 rfl rfl (Or.inl rfl) (ok_some hf :)
    · refine rn_iload_n 141 dX3_likes_140 rfl rfl ?_
      refine rn_aload_n 142 dX3_likes_141 rfl rfl ?_
      refine ro_gtR 145 dX3_likes_142 rfl f_X3_27 ft_3_5 hf (fun r21 hf => ?_)
      refine rn_iload_n 146 dX3_likes_145 rfl rfl ?_
      refine ro_iaload 147 dX3_likes_146 rfl hf (fun v22 hf => ?_)
      refine rn_aload_n 148 dX3_likes_147 rfl rfl ?_
      refine ro_gtI 151 dX3_likes_148 rfl f_X3_93 ft_2_0 hf (fun v23 hf => ?_)
      refine ro_irem 152 dX3_likes_151 rfl hf (fun v24 hf => ?_)
      refine ro_icmp_ne 159 155 dX3_likes_152 rfl rfl hf (fun hf => ?_) (fun hf => ?_)
      · refine rn_iconst 160 dX3_likes_159 rfl ic_0 ?_
        exact rn_iret .int dX3_likes_160 rfl rfl (Or.inl rfl) (ok_some hf :)
      · refine rn_iconst 156 dX3_likes_155 rfl ic_1 ?_
        refine rn_goto 160 dX3_likes_156 rfl ?_
        exact rn_iret .int dX3_likes_160 rfl rfl (Or.inl rfl) (ok_some hf :)
  · refine ro_icmp_ne 31 27 dX3_likes_24 rfl rfl hf (fun hf => ?_) (fun hf => ?_)
    · refine rn_iconst 32 dX3_likes_31 rfl ic_0 ?_
      exact (ok_some hf :)
    · refine rn_iconst 28 dX3_likes_27 rfl ic_1 ?_
      refine rn_goto 32 dX3_likes_28 rfl ?_
      exact (ok_some hf :)
theorem T_X4_as {G : WG} {post : PO} {h : AH} {o : Nat} {x1 : Int32} {x2 : Int32} (hf : OkA (F_X4_as h o x1 x2) (fun q => post (some q) h)) : Rn G M_X4_as (0, 0) 0 [(0, .ref (ad G o)), (1, .int x1), (2, .int x2)] [] h post := by
  obtain ⟨_, hf⟩ := ok_ck2 hf
  refine rn_aload_n 1 dX4_as_0 rfl rfl ?_
  refine rn_iload_n 2 dX4_as_1 rfl rfl ?_
  refine ro_cVp (M' := M_X4_isHen) (As := [.int x1]) (o := o) (st := []) 5 (0, 0) dX4_as_2 rfl l_X4_102 v_X4_isHen ⟨Nat.le_of_ble_eq_true rfl, Nat.le_of_ble_eq_true rfl⟩ rfl rfl (Nat.le_of_ble_eq_true rfl) (Nat.le_of_ble_eq_true rfl) ⟨rfl, Nat.le_of_ble_eq_true rfl, Nat.le_of_ble_eq_true rfl⟩ hf (fun X z => ok_ck z) rfl (fun X z => T_X4_isHen z) (fun v1 hf => ?_)
  refine ro_if_ne 11 8 dX4_as_5 rfl rfl hf (fun hf => ?_) (fun hf => ?_)
  · refine rn_iload_n 12 dX4_as_11 rfl rfl ?_
    refine ro_if_lt 20 15 dX4_as_12 rfl rfl hf (fun hf => ?_) (fun hf => ?_)
    · refine rn_bipush 22 dX4_as_20 rfl bp_m3 ?_
      exact rn_iret .int dX4_as_22 rfl rfl (Or.inl rfl) (ok_some hf :)
    · refine rn_iload_n 16 dX4_as_15 rfl rfl ?_
      refine rn_iconst 17 dX4_as_16 rfl ic_4 ?_
      refine ro_icmp_le 23 20 dX4_as_17 rfl rfl hf (fun hf => ?_) (fun hf => ?_)
      · refine rn_aload_n 24 dX4_as_23 rfl rfl ?_
        refine ro_gtR 27 dX4_as_24 rfl f_X4_29 ft_4_3 hf (fun r2 hf => ?_)
        refine ro_gtR 30 dX4_as_27 rfl f_X4_105 ft_3_4 hf (fun r3 hf => ?_)
        refine rn_iload_n 31 dX4_as_30 rfl rfl ?_
        refine ro_iaload 32 dX4_as_31 rfl hf (fun v4 hf => ?_)
        refine rn_iload_n 33 dX4_as_32 rfl rfl ?_
        refine ro_cSp (M' := M_X4_isUnder) (As := [.int v4, .int x2]) (st := []) 36 (0, 0) dX4_as_33 rfl l_X4_123 v_X4_isUnder ⟨Nat.le_of_ble_eq_true rfl, Nat.le_of_ble_eq_true rfl⟩ rfl rfl (Nat.le_of_ble_eq_true rfl) (Nat.le_of_ble_eq_true rfl) ⟨rfl, Nat.le_of_ble_eq_true rfl, Nat.le_of_ble_eq_true rfl⟩ hf (fun X z => T_X4_isUnder z) (fun v5 hf => ?_)
        refine ro_if_eq 49 39 dX4_as_36 rfl rfl hf (fun hf => ?_) (fun hf => ?_)
        · refine rn_bipush 51 dX4_as_49 rfl bp_m4 ?_
          exact rn_iret .int dX4_as_51 rfl rfl (Or.inl rfl) (ok_some hf :)
        · refine rn_aload_n 40 dX4_as_39 rfl rfl ?_
          refine ro_gtR 43 dX4_as_40 rfl f_X4_19 ft_4_1 hf (fun r6 hf => ?_)
          refine ro_gtI 46 dX4_as_43 rfl f_X4_127 ft_2_0 hf (fun v7 hf => ?_)
          refine ro_if_ne 52 49 dX4_as_46 rfl rfl hf (fun hf => ?_) (fun hf => ?_)
          · refine rn_aload_n 53 dX4_as_52 rfl rfl ?_
            refine ro_gtR 56 dX4_as_53 rfl f_X4_29 ft_4_3 hf (fun r8 hf => ?_)
            refine rn_aload_n 57 dX4_as_56 rfl rfl ?_
            refine ro_gtR 60 dX4_as_57 rfl f_X4_19 ft_4_1 hf (fun r9 hf => ?_)
            refine rn_iload_n 61 dX4_as_60 rfl rfl ?_
            refine rn_iconst 62 dX4_as_61 rfl ic_0 ?_
            refine ro_cVp (M' := M_X3_likes) (As := [.ref (ad G r9), .int x1, .int 0]) (o := r8) (st := []) 65 (0, 0) dX4_as_62 rfl l_X4_130 v_X3_likes ⟨Nat.le_of_ble_eq_true rfl, Nat.le_of_ble_eq_true rfl⟩ rfl rfl (Nat.le_of_ble_eq_true rfl) (Nat.le_of_ble_eq_true rfl) ⟨rfl, Nat.le_of_ble_eq_true rfl, Nat.le_of_ble_eq_true rfl⟩ hf (fun X z => ok_ck z) rfl (fun X z => T_X3_likes z) (fun v10 hf => ?_)
            refine rn_sipush 68 dX4_as_65 rfl sp_9999 ?_
            refine rn_iadd 69 dX4_as_68 rfl ?_
            exact rn_iret .int dX4_as_69 rfl rfl (Or.inl rfl) (ok_some hf :)
          · refine rn_bipush 51 dX4_as_49 rfl bp_m4 ?_
            exact rn_iret .int dX4_as_51 rfl rfl (Or.inl rfl) (ok_some hf :)
      · refine rn_bipush 22 dX4_as_20 rfl bp_m3 ?_
        exact rn_iret .int dX4_as_22 rfl rfl (Or.inl rfl) (ok_some hf :)
  · refine rn_bipush 10 dX4_as_8 rfl bp_m2 ?_
    exact rn_iret .int dX4_as_10 rfl rfl (Or.inl rfl) (ok_some hf :)
theorem T_X5_asTold {G : WG} {post : PO} {h : AH} {o : Nat} (hf : OkA (F_X5_asTold h o) (fun q => post none q)) : Rn G M_X5_asTold (0, 0) 0 [(0, .ref (ad G o))] [] h post := by
  obtain ⟨_, hf⟩ := ok_ck2 hf
  refine rn_aload_n 1 dX5_asTold_0 rfl rfl ?_
  refine ro_gtR 4 dX5_asTold_1 rfl f_X5_7 ft_5_0 hf (fun r1 hf => ?_)
  refine rn_bipush 6 dX5_asTold_4 rfl bp_26 ?_
  refine rn_aload_n 7 dX5_asTold_6 rfl rfl ?_
  refine ro_gtR 10 dX5_asTold_7 rfl f_X5_35 ft_5_17 hf (fun r2 hf => ?_)
  refine rn_iconst 11 dX5_asTold_10 rfl ic_0 ?_
  refine rn_iconst 12 dX5_asTold_11 rfl ic_5 ?_
  refine ro_cSv (M' := M_X5_copies) (As := [.ref (ad G r1), .int 26, .ref (ad G r2), .int 0, .int 5]) (st := []) 15 (0, 0) dX5_asTold_12 rfl l_X5_141 v_X5_copies ⟨Nat.le_of_ble_eq_true rfl, Nat.le_of_ble_eq_true rfl⟩ rfl rfl (Nat.le_of_ble_eq_true rfl) (Nat.le_of_ble_eq_true rfl) ⟨rfl, Nat.le_of_ble_eq_true rfl, Nat.le_of_ble_eq_true rfl⟩ hf (fun X z => T_X5_copies z) (fun h3 hf => ?_)
  refine rn_aload_n 16 dX5_asTold_15 rfl rfl ?_
  refine ro_gtR 19 dX5_asTold_16 rfl f_X5_7 ft_5_0 hf (fun r4 hf => ?_)
  refine rn_bipush 21 dX5_asTold_19 rfl bp_31 ?_
  refine rn_aload_n 22 dX5_asTold_21 rfl rfl ?_
  refine ro_gtR 25 dX5_asTold_22 rfl f_X5_38 ft_5_18 hf (fun r5 hf => ?_)
  refine rn_iconst 26 dX5_asTold_25 rfl ic_0 ?_
  refine rn_iconst 27 dX5_asTold_26 rfl ic_5 ?_
  refine ro_cSv (M' := M_X5_copies) (As := [.ref (ad G r4), .int 31, .ref (ad G r5), .int 0, .int 5]) (st := []) 30 (0, 0) dX5_asTold_27 rfl l_X5_141 v_X5_copies ⟨Nat.le_of_ble_eq_true rfl, Nat.le_of_ble_eq_true rfl⟩ rfl rfl (Nat.le_of_ble_eq_true rfl) (Nat.le_of_ble_eq_true rfl) ⟨rfl, Nat.le_of_ble_eq_true rfl, Nat.le_of_ble_eq_true rfl⟩ hf (fun X z => T_X5_copies z) (fun h6 hf => ?_)
  exact rn_vret dX5_asTold_30 rfl (Or.inl rfl) (ok_some hf :)
theorem T_X5_likes {G : WG} {post : PO} {h : AH} {o : Nat} {o1 : Nat} {x2 : Int32} {x3 : Int32} (hf : OkA (F_X5_likes h o o1 x2 x3) (fun q => post (some q) h)) : Rn G M_X5_likes (0, 0) 0 [(0, .ref (ad G o)), (1, .ref (ad G o1)), (2, .int x2), (3, .int x3)] [] h post := by
  obtain ⟨_, hf⟩ := ok_ck2 hf
  refine rn_iconst 1 dX5_likes_0 rfl ic_2 ?_
  refine rn_aload_n 2 dX5_likes_1 rfl rfl ?_
  refine rn_bipush 4 dX5_likes_2 rfl bp_10 ?_
  refine rn_iload_n 5 dX5_likes_4 rfl rfl ?_
  refine rn_iadd 6 dX5_likes_5 rfl ?_
  refine ro_iaload 7 dX5_likes_6 rfl hf (fun v1 hf => ?_)
  refine rn_imul 8 dX5_likes_7 rfl ?_
  refine rn_aload_n 9 dX5_likes_8 rfl rfl ?_
  refine ro_gtR 12 dX5_likes_9 rfl f_X5_7 ft_5_0 hf (fun r2 hf => ?_)
  refine rn_bipush 14 dX5_likes_12 rfl bp_17 ?_
  refine rn_iload_n 15 dX5_likes_14 rfl rfl ?_
  refine rn_iadd 16 dX5_likes_15 rfl ?_
  refine ro_iaload 17 dX5_likes_16 rfl hf (fun v3 hf => ?_)
  refine rn_iadd 18 dX5_likes_17 rfl ?_
  refine rn_aload_n 19 dX5_likes_18 rfl rfl ?_
  refine rn_bipush 21 dX5_likes_19 rfl bp_34 ?_
  refine rn_iload_n 22 dX5_likes_21 rfl rfl ?_
  refine rn_iadd 23 dX5_likes_22 rfl ?_
  refine ro_iaload 24 dX5_likes_23 rfl hf (fun v4 hf => ?_)
  refine rn_iload_n 25 dX5_likes_24 rfl rfl ?_
  refine ro_reg (X := (fun q5 : Int32 => Rn G M_X5_likes (0, 0) 38 [(0, .ref (ad G o)), (1, .ref (ad G o1)), (2, .int x2), (3, .int x3)] [.int q5, .int ((2 * v1) + v3)] h post)) hf (fun q5 hf => ?_) (fun hf => ?_)
  · refine rn_isub 39 dX5_likes_38 rfl ?_
    refine rn_istore (lv' := [(0, .ref (ad G o)), (1, .ref (ad G o1)), (2, .int x2), (3, .int x3), (4, .int (((2 * v1) + v3) - q5))]) 41 dX5_likes_39 rfl (Nat.le_of_ble_eq_true rfl) rfl ?_
    refine rn_aload_n 42 dX5_likes_41 rfl rfl ?_
    refine ro_gtR 45 dX5_likes_42 rfl f_X5_35 ft_5_17 hf (fun r8 hf => ?_)
    refine rn_iload_n 46 dX5_likes_45 rfl rfl ?_
    refine ro_iaload 47 dX5_likes_46 rfl hf (fun v9 hf => ?_)
    refine ro_arm hf (fun z0 hf => ?_) (fun z0 hf => ?_)
    · refine rn_tabIn 72 dX5_likes_47 (by rw [z0]; decide) (by rw [z0]; decide) (by rw [z0]; rfl) rfl ?_
      refine rn_iload 74 dX5_likes_72 rfl rfl ?_
      exact rn_iret .int dX5_likes_74 rfl rfl (Or.inl rfl) (ok_some hf :)
    refine ro_arm hf (fun z1 hf => ?_) (fun z1 hf => ?_)
    · refine rn_tabIn 75 dX5_likes_47 (by rw [z1]; decide) (by rw [z1]; decide) (by rw [z1]; rfl) rfl ?_
      refine rn_aload_n 76 dX5_likes_75 rfl rfl ?_
      refine rn_bipush 78 dX5_likes_76 rfl bp_34 ?_
      refine rn_iload_n 79 dX5_likes_78 rfl rfl ?_
      refine rn_iadd 80 dX5_likes_79 rfl ?_
      refine ro_iaload 81 dX5_likes_80 rfl hf (fun v10 hf => ?_)
      refine rn_iload_n 82 dX5_likes_81 rfl rfl ?_
      refine ro_icmp_ne 93 85 dX5_likes_82 rfl rfl hf (fun hf => ?_) (fun hf => ?_)
      · refine rn_iload 95 dX5_likes_93 rfl rfl ?_
        exact rn_iret .int dX5_likes_95 rfl rfl (Or.inl rfl) (ok_some hf :)
      · refine rn_iload 87 dX5_likes_85 rfl rfl ?_
        refine rn_bipush 89 dX5_likes_87 rfl bp_9 ?_
        refine rn_iadd 90 dX5_likes_89 rfl ?_
        refine rn_goto 95 dX5_likes_90 rfl ?_
        exact rn_iret .int dX5_likes_95 rfl rfl (Or.inl rfl) (ok_some hf :)
    refine ro_arm hf (fun z2 hf => ?_) (fun z2 hf => ?_)
    · refine rn_tabIn 96 dX5_likes_47 (by rw [z2]; decide) (by rw [z2]; decide) (by rw [z2]; rfl) rfl ?_
      refine rn_aload_n 97 dX5_likes_96 rfl rfl ?_
      refine ro_gtR 100 dX5_likes_97 rfl f_X5_7 ft_5_0 hf (fun r11 hf => ?_)
      refine rn_bipush 102 dX5_likes_100 rfl bp_17 ?_
      refine rn_iload_n 103 dX5_likes_102 rfl rfl ?_
      refine rn_iadd 104 dX5_likes_103 rfl ?_
      refine ro_iaload 105 dX5_likes_104 rfl hf (fun v12 hf => ?_)
      refine rn_aload_n 106 dX5_likes_105 rfl rfl ?_
      refine rn_iconst 107 dX5_likes_106 rfl ic_0 ?_
      refine ro_iaload 108 dX5_likes_107 rfl hf (fun v13 hf => ?_)
      refine rn_aload_n 109 dX5_likes_108 rfl rfl ?_
      refine ro_gtR 112 dX5_likes_109 rfl f_X5_38 ft_5_18 hf (fun r14 hf => ?_)
      refine rn_iload_n 113 dX5_likes_112 rfl rfl ?_
      refine ro_iaload 114 dX5_likes_113 rfl hf (fun v15 hf => ?_)
      refine rn_imul 115 dX5_likes_114 rfl ?_
      refine rn_iadd 116 dX5_likes_115 rfl ?_
      refine rn_bipush 118 dX5_likes_116 rfl bp_10 ?_
      refine ro_irem 119 dX5_likes_118 rfl hf (fun v16 hf => ?_)
      exact rn_iret .int dX5_likes_119 rfl rfl (Or.inl rfl) (ok_some hf :)
    refine rn_tabOut 120 dX5_likes_47 (tb_out3 z0 z1 z2) rfl ?_
    refine rn_aload_n 121 dX5_likes_120 rfl rfl ?_
    refine ro_gtR 124 dX5_likes_121 rfl f_X5_38 ft_5_18 hf (fun r17 hf => ?_)
    refine rn_iload_n 125 dX5_likes_124 rfl rfl ?_
    refine ro_iaload 126 dX5_likes_125 rfl hf (fun v18 hf => ?_)
    refine rn_aload_n 127 dX5_likes_126 rfl rfl ?_
    refine ro_gtR 130 dX5_likes_127 rfl f_X5_7 ft_5_0 hf (fun r19 hf => ?_)
    refine rn_iconst 131 dX5_likes_130 rfl ic_0 ?_
    refine ro_iaload 132 dX5_likes_131 rfl hf (fun v20 hf => ?_)
    refine ro_irem 133 dX5_likes_132 rfl hf (fun v21 hf => ?_)
    refine rn_iload_n 134 dX5_likes_133 rfl rfl ?_
    refine ro_icmp_ne 141 137 dX5_likes_134 rfl rfl hf (fun hf => ?_) (fun hf => ?_)
    · refine rn_iconst 142 dX5_likes_141 rfl ic_0 ?_
      exact rn_iret .int dX5_likes_142 rfl rfl (Or.inl rfl) (ok_some hf :)
    · refine rn_iconst 138 dX5_likes_137 rfl ic_1 ?_
      refine rn_goto 142 dX5_likes_138 rfl ?_
      exact rn_iret .int dX5_likes_142 rfl rfl (Or.inl rfl) (ok_some hf :)
  · refine ro_icmp_ne 37 28 dX5_likes_25 rfl rfl hf (fun hf => ?_) (fun hf => ?_)
    · refine rn_iconst 38 dX5_likes_37 rfl ic_0 ?_
      exact (ok_some hf :)
    · refine rn_aload_n 29 dX5_likes_28 rfl rfl ?_
      refine ro_gtR 32 dX5_likes_29 rfl f_X5_38 ft_5_18 hf (fun r6 hf => ?_)
      refine rn_iload_n 33 dX5_likes_32 rfl rfl ?_
      refine ro_iaload 34 dX5_likes_33 rfl hf (fun v7 hf => ?_)
      refine rn_goto 38 dX5_likes_34 rfl ?_
      exact (ok_some hf :)
