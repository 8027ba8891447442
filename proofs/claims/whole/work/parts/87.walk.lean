theorem T_X4_count {G : WG} {post : PO} {h : AH} {o : Nat} {x1 : Int32} (hf : OkA (F_X4_count h o x1) (fun q => post (some q) h)) : Rn G M_X4_count (0, 0) 0 [(0, .ref (ad G o)), (1, .int x1)] [] h post := by
  obtain ⟨_, hf⟩ := ok_ck2 hf
  refine rn_iload_n 1 dX4_count_0 rfl rfl ?_
  refine ro_arm hf (fun z0 hf => ?_) (fun z0 hf => ?_)
  · refine rn_tabIn 68 dX4_count_1 (by rw [z0]; decide) (by rw [z0]; decide) (by rw [z0]; rfl) rfl ?_
    refine rn_aload_n 69 dX4_count_68 rfl rfl ?_
    refine ro_gtR 72 dX4_count_69 rfl f_X4_19 ft_4_1 hf (fun r1 hf => ?_)
    refine ro_gtI 75 dX4_count_72 rfl f_X4_127 ft_2_0 hf (fun v2 hf => ?_)
    exact rn_iret .int dX4_count_75 rfl rfl (Or.inl rfl) (ok_some hf :)
  refine ro_arm hf (fun z1 hf => ?_) (fun z1 hf => ?_)
  · refine rn_tabIn 76 dX4_count_1 (by rw [z1]; decide) (by rw [z1]; decide) (by rw [z1]; rfl) rfl ?_
    refine rn_aload_n 77 dX4_count_76 rfl rfl ?_
    refine ro_gtR 80 dX4_count_77 rfl f_X4_19 ft_4_1 hf (fun r3 hf => ?_)
    refine ro_gtI 83 dX4_count_80 rfl f_X4_177 ft_2_1 hf (fun v4 hf => ?_)
    exact rn_iret .int dX4_count_83 rfl rfl (Or.inl rfl) (ok_some hf :)
  refine ro_arm hf (fun z2 hf => ?_) (fun z2 hf => ?_)
  · refine rn_tabIn 84 dX4_count_1 (by rw [z2]; decide) (by rw [z2]; decide) (by rw [z2]; rfl) rfl ?_
    refine rn_aload_n 85 dX4_count_84 rfl rfl ?_
    refine ro_gtR 88 dX4_count_85 rfl f_X4_29 ft_4_3 hf (fun r5 hf => ?_)
    refine ro_gtI 91 dX4_count_88 rfl f_X4_134 ft_3_9 hf (fun v6 hf => ?_)
    exact rn_iret .int dX4_count_91 rfl rfl (Or.inl rfl) (ok_some hf :)
  refine ro_arm hf (fun z3 hf => ?_) (fun z3 hf => ?_)
  · refine rn_tabIn 92 dX4_count_1 (by rw [z3]; decide) (by rw [z3]; decide) (by rw [z3]; rfl) rfl ?_
    refine rn_aload_n 93 dX4_count_92 rfl rfl ?_
    refine ro_gtR 96 dX4_count_93 rfl f_X4_29 ft_4_3 hf (fun r7 hf => ?_)
    refine ro_cVp (M' := M_X3_eggBits) (As := []) (o := r7) (st := []) 99 (0, 0) dX4_count_96 rfl l_X4_143 v_X3_eggBits ⟨Nat.le_of_ble_eq_true rfl, Nat.le_of_ble_eq_true rfl⟩ rfl rfl (Nat.le_of_ble_eq_true rfl) (Nat.le_of_ble_eq_true rfl) ⟨rfl, Nat.le_of_ble_eq_true rfl, Nat.le_of_ble_eq_true rfl⟩ hf (fun X z => ok_ck z) rfl (fun X z => T_X3_eggBits z) (fun v8 hf => ?_)
    exact rn_iret .int dX4_count_99 rfl rfl (Or.inl rfl) (ok_some hf :)
  refine ro_arm hf (fun z4 hf => ?_) (fun z4 hf => ?_)
  · refine rn_tabIn 100 dX4_count_1 (by rw [z4]; decide) (by rw [z4]; decide) (by rw [z4]; rfl) rfl ?_
    refine rn_aload_n 101 dX4_count_100 rfl rfl ?_
    refine ro_gtR 104 dX4_count_101 rfl f_X4_29 ft_4_3 hf (fun r9 hf => ?_)
    refine ro_gtI 107 dX4_count_104 rfl f_X4_151 ft_3_11 hf (fun v10 hf => ?_)
    exact rn_iret .int dX4_count_107 rfl rfl (Or.inl rfl) (ok_some hf :)
  refine ro_arm hf (fun z5 hf => ?_) (fun z5 hf => ?_)
  · refine rn_tabIn 108 dX4_count_1 (by rw [z5]; decide) (by rw [z5]; decide) (by rw [z5]; rfl) rfl ?_
    refine rn_aload_n 109 dX4_count_108 rfl rfl ?_
    refine ro_gtR 112 dX4_count_109 rfl f_X4_29 ft_4_3 hf (fun r11 hf => ?_)
    refine ro_gtI 115 dX4_count_112 rfl f_X4_154 ft_3_12 hf (fun v12 hf => ?_)
    exact rn_iret .int dX4_count_115 rfl rfl (Or.inl rfl) (ok_some hf :)
  refine ro_arm hf (fun z6 hf => ?_) (fun z6 hf => ?_)
  · refine rn_tabIn 116 dX4_count_1 (by rw [z6]; decide) (by rw [z6]; decide) (by rw [z6]; rfl) rfl ?_
    refine rn_aload_n 117 dX4_count_116 rfl rfl ?_
    refine ro_gtR 120 dX4_count_117 rfl f_X4_29 ft_4_3 hf (fun r13 hf => ?_)
    refine ro_gtI 123 dX4_count_120 rfl f_X4_157 ft_3_13 hf (fun v14 hf => ?_)
    refine rn_sipush 126 dX4_count_123 rfl sp_9999 ?_
    refine rn_iadd 127 dX4_count_126 rfl ?_
    exact rn_iret .int dX4_count_127 rfl rfl (Or.inl rfl) (ok_some hf :)
  refine ro_arm hf (fun z7 hf => ?_) (fun z7 hf => ?_)
  · refine rn_tabIn 128 dX4_count_1 (by rw [z7]; decide) (by rw [z7]; decide) (by rw [z7]; rfl) rfl ?_
    refine rn_aload_n 129 dX4_count_128 rfl rfl ?_
    refine ro_gtR 132 dX4_count_129 rfl f_X4_29 ft_4_3 hf (fun r15 hf => ?_)
    refine ro_gtR 135 dX4_count_132 rfl f_X4_114 ft_3_7 hf (fun r16 hf => ?_)
    refine ro_cSp (M' := M_X4_sum) (As := [.ref (ad G r16)]) (st := []) 138 (0, 0) dX4_count_135 rfl l_X4_209 v_X4_sum ⟨Nat.le_of_ble_eq_true rfl, Nat.le_of_ble_eq_true rfl⟩ rfl rfl (Nat.le_of_ble_eq_true rfl) (Nat.le_of_ble_eq_true rfl) ⟨rfl, Nat.le_of_ble_eq_true rfl, Nat.le_of_ble_eq_true rfl⟩ hf (fun X z => T_X4_sum z) (fun v17 hf => ?_)
    exact rn_iret .int dX4_count_138 rfl rfl (Or.inl rfl) (ok_some hf :)
  refine ro_arm hf (fun z8 hf => ?_) (fun z8 hf => ?_)
  · refine rn_tabIn 139 dX4_count_1 (by rw [z8]; decide) (by rw [z8]; decide) (by rw [z8]; rfl) rfl ?_
    refine rn_aload_n 140 dX4_count_139 rfl rfl ?_
    refine ro_gtR 143 dX4_count_140 rfl f_X4_29 ft_4_3 hf (fun r18 hf => ?_)
    refine ro_gtR 146 dX4_count_143 rfl f_X4_117 ft_3_8 hf (fun r19 hf => ?_)
    refine ro_cSp (M' := M_X4_sum) (As := [.ref (ad G r19)]) (st := []) 149 (0, 0) dX4_count_146 rfl l_X4_209 v_X4_sum ⟨Nat.le_of_ble_eq_true rfl, Nat.le_of_ble_eq_true rfl⟩ rfl rfl (Nat.le_of_ble_eq_true rfl) (Nat.le_of_ble_eq_true rfl) ⟨rfl, Nat.le_of_ble_eq_true rfl, Nat.le_of_ble_eq_true rfl⟩ hf (fun X z => T_X4_sum z) (fun v20 hf => ?_)
    exact rn_iret .int dX4_count_149 rfl rfl (Or.inl rfl) (ok_some hf :)
  refine ro_arm hf (fun z9 hf => ?_) (fun z9 hf => ?_)
  · refine rn_tabIn 150 dX4_count_1 (by rw [z9]; decide) (by rw [z9]; decide) (by rw [z9]; rfl) rfl ?_
    refine rn_aload_n 151 dX4_count_150 rfl rfl ?_
    refine ro_gtR 154 dX4_count_151 rfl f_X4_29 ft_4_3 hf (fun r21 hf => ?_)
    refine ro_gtI 157 dX4_count_154 rfl f_X4_147 ft_3_10 hf (fun v22 hf => ?_)
    refine ro_if_eq 164 160 dX4_count_157 rfl rfl hf (fun hf => ?_) (fun hf => ?_)
    · refine rn_iconst 165 dX4_count_164 rfl ic_0 ?_
      exact rn_iret .int dX4_count_165 rfl rfl (Or.inl rfl) (ok_some hf :)
    · refine rn_iconst 161 dX4_count_160 rfl ic_1 ?_
      refine rn_goto 165 dX4_count_161 rfl ?_
      exact rn_iret .int dX4_count_165 rfl rfl (Or.inl rfl) (ok_some hf :)
  refine ro_arm hf (fun z10 hf => ?_) (fun z10 hf => ?_)
  · refine rn_tabIn 166 dX4_count_1 (by rw [z10]; decide) (by rw [z10]; decide) (by rw [z10]; rfl) rfl ?_
    refine rn_aload_n 167 dX4_count_166 rfl rfl ?_
    refine ro_gtR 170 dX4_count_167 rfl f_X4_50 ft_4_9 hf (fun r23 hf => ?_)
    refine ro_gtI 173 dX4_count_170 rfl f_X4_77 ft_0_3 hf (fun v24 hf => ?_)
    exact rn_iret .int dX4_count_173 rfl rfl (Or.inl rfl) (ok_some hf :)
  refine ro_arm hf (fun z11 hf => ?_) (fun z11 hf => ?_)
  · refine rn_tabIn 174 dX4_count_1 (by rw [z11]; decide) (by rw [z11]; decide) (by rw [z11]; rfl) rfl ?_
    refine rn_aload_n 175 dX4_count_174 rfl rfl ?_
    refine ro_gtI 178 dX4_count_175 rfl f_X4_80 ft_4_6 hf (fun v25 hf => ?_)
    exact rn_iret .int dX4_count_178 rfl rfl (Or.inl rfl) (ok_some hf :)
  refine ro_arm hf (fun z12 hf => ?_) (fun z12 hf => ?_)
  · refine rn_tabIn 179 dX4_count_1 (by rw [z12]; decide) (by rw [z12]; decide) (by rw [z12]; rfl) rfl ?_
    refine rn_aload_n 180 dX4_count_179 rfl rfl ?_
    refine ro_gtR 183 dX4_count_180 rfl f_X4_10 ft_4_0 hf (fun r26 hf => ?_)
    refine ro_gtI 186 dX4_count_183 rfl f_X4_58 ft_1_1 hf (fun v27 hf => ?_)
    exact rn_iret .int dX4_count_186 rfl rfl (Or.inl rfl) (ok_some hf :)
  refine rn_tabOut 187 dX4_count_1 (tb_out13 z0 z1 z2 z3 z4 z5 z6 z7 z8 z9 z10 z11 z12) rfl ?_
  refine rn_bipush 189 dX4_count_187 rfl bp_m3 ?_
  exact rn_iret .int dX4_count_189 rfl rfl (Or.inl rfl) (ok_some hf :)
theorem TL_X5_count_10 {G : WG} {post : PO} {β : Type} {P : β → Prop} {h : AH} {o0 : Nat} {x1 : Int32} {x3 : Int32} {x4 : Int32} {k : Int32 → Int32 → Option (β)} (hk : ∀ (x2 : Int32) (x5 : Int32), OkA (k x2 x5) P → Rn G M_X5_count (0, 0) 48 [(0, .ref (ad G o0)), (1, .int x1), (2, .int x2), (3, .int x3), (4, .int x4), (5, .int x5)] [] h post) : ∀ (n : Nat) (x2 : Int32) (x5 : Int32), OkA (L_X5_count_10 h o0 x1 x3 x4 k n x2 x5) P → Rn G M_X5_count (0, 0) 10 [(0, .ref (ad G o0)), (1, .int x1), (2, .int x2), (3, .int x3), (4, .int x4), (5, .int x5)] [] h post := by
  intro n
  induction n with
  | zero => intro _ _ hf; exact absurd hf ok_none
  | succ n ih =>
    intro x2 x5 hf
    refine rn_iload 12 dX5_count_10 rfl rfl ?_
    refine rn_bipush 14 dX5_count_12 rfl bp_8 ?_
    refine ro_icmp_ge 48 17 dX5_count_14 rfl rfl hf (fun hf => ?_) (fun hf => ?_)
    · exact hk _ _ hf
    · refine rn_iload_n 18 dX5_count_17 rfl rfl ?_
      refine rn_aload_n 19 dX5_count_18 rfl rfl ?_
      refine ro_gtR 22 dX5_count_19 rfl f_X5_16 ft_5_2 hf (fun r1 hf => ?_)
      refine rn_bipush 24 dX5_count_22 rfl bp_18 ?_
      refine rn_iload 26 dX5_count_24 rfl rfl ?_
      refine rn_iadd 27 dX5_count_26 rfl ?_
      refine ro_iaload 28 dX5_count_27 rfl hf (fun v2 hf => ?_)
      refine rn_iconst 29 dX5_count_28 rfl ic_m1 ?_
      refine ro_reg (X := (fun q3 : Int32 => Rn G M_X5_count (0, 0) 40 [(0, .ref (ad G o0)), (1, .int x1), (2, .int x2), (3, .int x3), (4, .int x4), (5, .int x5)] [.int q3, .int x2] h post)) hf (fun q3 hf => ?_) (fun hf => ?_)
      · refine rn_ior 41 dX5_count_40 rfl ?_
        refine rn_istore_n (lv' := [(0, .ref (ad G o0)), (1, .int x1), (2, .int (x2 ||| q3)), (3, .int x3), (4, .int x4), (5, .int x5)]) 42 dX5_count_41 rfl (Nat.le_of_ble_eq_true rfl) rfl ?_
        refine rn_iinc (lv' := [(0, .ref (ad G o0)), (1, .int x1), (2, .int (x2 ||| q3)), (3, .int x3), (4, .int x4), (5, .int (x5 + 1))]) 45 dX5_count_42 rfl (Nat.le_of_ble_eq_true rfl) rfl (inc_1 _) rfl ?_
        refine rn_goto 10 dX5_count_45 rfl ?_
        exact ih _ _ hf
      · refine ro_icmp_ne 36 32 dX5_count_29 rfl rfl hf (fun hf => ?_) (fun hf => ?_)
        · refine rn_iconst 37 dX5_count_36 rfl ic_1 ?_
          refine rn_iload 39 dX5_count_37 rfl rfl ?_
          refine rn_ishl 40 dX5_count_39 rfl ?_
          exact (ok_some hf :)
        · refine rn_iconst 33 dX5_count_32 rfl ic_0 ?_
          refine rn_goto 40 dX5_count_33 rfl ?_
          exact (ok_some hf :)
theorem TL_X5_count_51 {G : WG} {post : PO} {β : Type} {P : β → Prop} {h : AH} {o0 : Nat} {x1 : Int32} {x2 : Int32} {k : Int32 → Int32 → Int32 → Option (β)} (hk : ∀ (x3 : Int32) (x4 : Int32) (x5 : Int32), OkA (k x3 x4 x5) P → Rn G M_X5_count (0, 0) 91 [(0, .ref (ad G o0)), (1, .int x1), (2, .int x2), (3, .int x3), (4, .int x4), (5, .int x5)] [] h post) : ∀ (n : Nat) (x3 : Int32) (x4 : Int32) (x5 : Int32), OkA (L_X5_count_51 h o0 x1 x2 k n x3 x4 x5) P → Rn G M_X5_count (0, 0) 51 [(0, .ref (ad G o0)), (1, .int x1), (2, .int x2), (3, .int x3), (4, .int x4), (5, .int x5)] [] h post := by
  intro n
  induction n with
  | zero => intro _ _ _ hf; exact absurd hf ok_none
  | succ n ih =>
    intro x3 x4 x5 hf
    refine rn_iload 53 dX5_count_51 rfl rfl ?_
    refine rn_iconst 54 dX5_count_53 rfl ic_5 ?_
    refine ro_icmp_ge 91 57 dX5_count_54 rfl rfl hf (fun hf => ?_) (fun hf => ?_)
    · exact hk _ _ _ hf
    · refine rn_iload_n 58 dX5_count_57 rfl rfl ?_
      refine rn_aload_n 59 dX5_count_58 rfl rfl ?_
      refine ro_gtR 62 dX5_count_59 rfl f_X5_16 ft_5_2 hf (fun r1 hf => ?_)
      refine rn_bipush 64 dX5_count_62 rfl bp_39 ?_
      refine rn_iload 66 dX5_count_64 rfl rfl ?_
      refine rn_iadd 67 dX5_count_66 rfl ?_
      refine ro_iaload 68 dX5_count_67 rfl hf (fun v2 hf => ?_)
      refine rn_iadd 69 dX5_count_68 rfl ?_
      refine rn_istore_n (lv' := [(0, .ref (ad G o0)), (1, .int x1), (2, .int x2), (3, .int (x3 + v2)), (4, .int x4), (5, .int x5)]) 70 dX5_count_69 rfl (Nat.le_of_ble_eq_true rfl) rfl ?_
      refine rn_iload 72 dX5_count_70 rfl rfl ?_
      refine rn_aload_n 73 dX5_count_72 rfl rfl ?_
      refine ro_gtR 76 dX5_count_73 rfl f_X5_16 ft_5_2 hf (fun r3 hf => ?_)
      refine rn_bipush 78 dX5_count_76 rfl bp_44 ?_
      refine rn_iload 80 dX5_count_78 rfl rfl ?_
      refine rn_iadd 81 dX5_count_80 rfl ?_
      refine ro_iaload 82 dX5_count_81 rfl hf (fun v4 hf => ?_)
      refine rn_iadd 83 dX5_count_82 rfl ?_
      refine rn_istore (lv' := [(0, .ref (ad G o0)), (1, .int x1), (2, .int x2), (3, .int (x3 + v2)), (4, .int (x4 + v4)), (5, .int x5)]) 85 dX5_count_83 rfl (Nat.le_of_ble_eq_true rfl) rfl ?_
      refine rn_iinc (lv' := [(0, .ref (ad G o0)), (1, .int x1), (2, .int x2), (3, .int (x3 + v2)), (4, .int (x4 + v4)), (5, .int (x5 + 1))]) 88 dX5_count_85 rfl (Nat.le_of_ble_eq_true rfl) rfl (inc_1 _) rfl ?_
      refine rn_goto 51 dX5_count_88 rfl ?_
      exact ih _ _ _ hf
theorem T_X5_count {G : WG} {post : PO} {h : AH} {o : Nat} {x1 : Int32} (hf : OkA (F_X5_count h o x1) (fun q => post (some q) h)) : Rn G M_X5_count (0, 0) 0 [(0, .ref (ad G o)), (1, .int x1)] [] h post := by
  obtain ⟨_, hf⟩ := ok_ck2 hf
  refine rn_iconst 1 dX5_count_0 rfl ic_0 ?_
  refine rn_istore_n (lv' := [(0, .ref (ad G o)), (1, .int x1), (2, .int 0)]) 2 dX5_count_1 rfl (Nat.le_of_ble_eq_true rfl) rfl ?_
  refine rn_iconst 3 dX5_count_2 rfl ic_0 ?_
  refine rn_istore_n (lv' := [(0, .ref (ad G o)), (1, .int x1), (2, .int 0), (3, .int 0)]) 4 dX5_count_3 rfl (Nat.le_of_ble_eq_true rfl) rfl ?_
  refine rn_iconst 5 dX5_count_4 rfl ic_0 ?_
  refine rn_istore (lv' := [(0, .ref (ad G o)), (1, .int x1), (2, .int 0), (3, .int 0), (4, .int 0)]) 7 dX5_count_5 rfl (Nat.le_of_ble_eq_true rfl) rfl ?_
  refine rn_iconst 8 dX5_count_7 rfl ic_0 ?_
  refine rn_istore (lv' := [(0, .ref (ad G o)), (1, .int x1), (2, .int 0), (3, .int 0), (4, .int 0), (5, .int 0)]) 10 dX5_count_8 rfl (Nat.le_of_ble_eq_true rfl) rfl ?_
  refine TL_X5_count_10 ?_ FU _ _ hf
  intro y4 y5 hf
  refine rn_iconst 49 dX5_count_48 rfl ic_0 ?_
  refine rn_istore (lv' := [(0, .ref (ad G o)), (1, .int x1), (2, .int y4), (3, .int 0), (4, .int 0), (5, .int 0)]) 51 dX5_count_49 rfl (Nat.le_of_ble_eq_true rfl) rfl ?_
  refine TL_X5_count_51 ?_ FU _ _ _ hf
  intro y6 y7 y8 hf
  refine rn_iload_n 92 dX5_count_91 rfl rfl ?_
  refine ro_arm hf (fun z0 hf => ?_) (fun z0 hf => ?_)
  · refine rn_tabIn 160 dX5_count_92 (by rw [z0]; decide) (by rw [z0]; decide) (by rw [z0]; rfl) rfl ?_
    refine rn_aload_n 161 dX5_count_160 rfl rfl ?_
    refine ro_gtR 164 dX5_count_161 rfl f_X5_7 ft_5_0 hf (fun r9 hf => ?_)
    refine rn_iconst 165 dX5_count_164 rfl ic_0 ?_
    refine ro_iaload 166 dX5_count_165 rfl hf (fun v10 hf => ?_)
    exact rn_iret .int dX5_count_166 rfl rfl (Or.inl rfl) (ok_some hf :)
  refine ro_arm hf (fun z1 hf => ?_) (fun z1 hf => ?_)
  · refine rn_tabIn 167 dX5_count_92 (by rw [z1]; decide) (by rw [z1]; decide) (by rw [z1]; rfl) rfl ?_
    refine rn_aload_n 168 dX5_count_167 rfl rfl ?_
    refine ro_gtR 171 dX5_count_168 rfl f_X5_7 ft_5_0 hf (fun r11 hf => ?_)
    refine rn_bipush 173 dX5_count_171 rfl bp_25 ?_
    refine ro_iaload 174 dX5_count_173 rfl hf (fun v12 hf => ?_)
    exact rn_iret .int dX5_count_174 rfl rfl (Or.inl rfl) (ok_some hf :)
  refine ro_arm hf (fun z2 hf => ?_) (fun z2 hf => ?_)
  · refine rn_tabIn 175 dX5_count_92 (by rw [z2]; decide) (by rw [z2]; decide) (by rw [z2]; rfl) rfl ?_
    refine rn_aload_n 176 dX5_count_175 rfl rfl ?_
    refine ro_gtR 179 dX5_count_176 rfl f_X5_16 ft_5_2 hf (fun r13 hf => ?_)
    refine rn_iconst 180 dX5_count_179 rfl ic_0 ?_
    refine ro_iaload 181 dX5_count_180 rfl hf (fun v14 hf => ?_)
    exact rn_iret .int dX5_count_181 rfl rfl (Or.inl rfl) (ok_some hf :)
  refine ro_arm hf (fun z3 hf => ?_) (fun z3 hf => ?_)
  · refine rn_tabIn 182 dX5_count_92 (by rw [z3]; decide) (by rw [z3]; decide) (by rw [z3]; rfl) rfl ?_
    refine rn_iload_n 183 dX5_count_182 rfl rfl ?_
    exact rn_iret .int dX5_count_183 rfl rfl (Or.inl rfl) (ok_some hf :)
  refine ro_arm hf (fun z4 hf => ?_) (fun z4 hf => ?_)
  · refine rn_tabIn 184 dX5_count_92 (by rw [z4]; decide) (by rw [z4]; decide) (by rw [z4]; rfl) rfl ?_
    refine rn_aload_n 185 dX5_count_184 rfl rfl ?_
    refine ro_gtR 188 dX5_count_185 rfl f_X5_16 ft_5_2 hf (fun r15 hf => ?_)
    refine rn_bipush 190 dX5_count_188 rfl bp_49 ?_
    refine rn_iload_n 191 dX5_count_190 rfl rfl ?_
    refine rn_iadd 192 dX5_count_191 rfl ?_
    refine rn_iconst 193 dX5_count_192 rfl ic_4 ?_
    refine rn_isub 194 dX5_count_193 rfl ?_
    refine ro_iaload 195 dX5_count_194 rfl hf (fun v16 hf => ?_)
    exact rn_iret .int dX5_count_195 rfl rfl (Or.inl rfl) (ok_some hf :)
  refine ro_arm hf (fun z5 hf => ?_) (fun z5 hf => ?_)
  · refine rn_tabIn 184 dX5_count_92 (by rw [z5]; decide) (by rw [z5]; decide) (by rw [z5]; rfl) rfl ?_
    refine rn_aload_n 185 dX5_count_184 rfl rfl ?_
    refine ro_gtR 188 dX5_count_185 rfl f_X5_16 ft_5_2 hf (fun r17 hf => ?_)
    refine rn_bipush 190 dX5_count_188 rfl bp_49 ?_
    refine rn_iload_n 191 dX5_count_190 rfl rfl ?_
    refine rn_iadd 192 dX5_count_191 rfl ?_
    refine rn_iconst 193 dX5_count_192 rfl ic_4 ?_
    refine rn_isub 194 dX5_count_193 rfl ?_
    refine ro_iaload 195 dX5_count_194 rfl hf (fun v18 hf => ?_)
    exact rn_iret .int dX5_count_195 rfl rfl (Or.inl rfl) (ok_some hf :)
  refine ro_arm hf (fun z6 hf => ?_) (fun z6 hf => ?_)
  · refine rn_tabIn 196 dX5_count_92 (by rw [z6]; decide) (by rw [z6]; decide) (by rw [z6]; rfl) rfl ?_
    refine rn_aload_n 197 dX5_count_196 rfl rfl ?_
    refine ro_gtR 200 dX5_count_197 rfl f_X5_16 ft_5_2 hf (fun r19 hf => ?_)
    refine rn_bipush 202 dX5_count_200 rfl bp_51 ?_
    refine ro_iaload 203 dX5_count_202 rfl hf (fun v20 hf => ?_)
    refine rn_sipush 206 dX5_count_203 rfl sp_9999 ?_
    refine rn_iadd 207 dX5_count_206 rfl ?_
    exact rn_iret .int dX5_count_207 rfl rfl (Or.inl rfl) (ok_some hf :)
  refine ro_arm hf (fun z7 hf => ?_) (fun z7 hf => ?_)
  · refine rn_tabIn 208 dX5_count_92 (by rw [z7]; decide) (by rw [z7]; decide) (by rw [z7]; rfl) rfl ?_
    refine rn_iload_n 209 dX5_count_208 rfl rfl ?_
    exact rn_iret .int dX5_count_209 rfl rfl (Or.inl rfl) (ok_some hf :)
  refine ro_arm hf (fun z8 hf => ?_) (fun z8 hf => ?_)
  · refine rn_tabIn 210 dX5_count_92 (by rw [z8]; decide) (by rw [z8]; decide) (by rw [z8]; rfl) rfl ?_
    refine rn_iload 212 dX5_count_210 rfl rfl ?_
    exact rn_iret .int dX5_count_212 rfl rfl (Or.inl rfl) (ok_some hf :)
  refine ro_arm hf (fun z9 hf => ?_) (fun z9 hf => ?_)
  · refine rn_tabIn 213 dX5_count_92 (by rw [z9]; decide) (by rw [z9]; decide) (by rw [z9]; rfl) rfl ?_
    refine rn_aload_n 214 dX5_count_213 rfl rfl ?_
    refine ro_gtR 217 dX5_count_214 rfl f_X5_16 ft_5_2 hf (fun r21 hf => ?_)
    refine rn_iconst 218 dX5_count_217 rfl ic_1 ?_
    refine ro_iaload 219 dX5_count_218 rfl hf (fun v22 hf => ?_)
    exact rn_iret .int dX5_count_219 rfl rfl (Or.inl rfl) (ok_some hf :)
  refine ro_arm hf (fun z10 hf => ?_) (fun z10 hf => ?_)
  · refine rn_tabIn 220 dX5_count_92 (by rw [z10]; decide) (by rw [z10]; decide) (by rw [z10]; rfl) rfl ?_
    refine rn_aload_n 221 dX5_count_220 rfl rfl ?_
    refine ro_gtI 224 dX5_count_221 rfl f_X5_58 ft_5_10 hf (fun v23 hf => ?_)
    exact rn_iret .int dX5_count_224 rfl rfl (Or.inl rfl) (ok_some hf :)
  refine ro_arm hf (fun z11 hf => ?_) (fun z11 hf => ?_)
  · refine rn_tabIn 225 dX5_count_92 (by rw [z11]; decide) (by rw [z11]; decide) (by rw [z11]; rfl) rfl ?_
    refine rn_aload_n 226 dX5_count_225 rfl rfl ?_
    refine ro_gtI 229 dX5_count_226 rfl f_X5_54 ft_5_4 hf (fun v24 hf => ?_)
    exact rn_iret .int dX5_count_229 rfl rfl (Or.inl rfl) (ok_some hf :)
  refine ro_arm hf (fun z12 hf => ?_) (fun z12 hf => ?_)
  · refine rn_tabIn 230 dX5_count_92 (by rw [z12]; decide) (by rw [z12]; decide) (by rw [z12]; rfl) rfl ?_
    refine rn_aload_n 231 dX5_count_230 rfl rfl ?_
    refine ro_gtI 234 dX5_count_231 rfl f_X5_67 ft_5_8 hf (fun v25 hf => ?_)
    exact rn_iret .int dX5_count_234 rfl rfl (Or.inl rfl) (ok_some hf :)
  refine rn_tabOut 235 dX5_count_92 (tb_out13 z0 z1 z2 z3 z4 z5 z6 z7 z8 z9 z10 z11 z12) rfl ?_
  refine rn_bipush 237 dX5_count_235 rfl bp_m3 ?_
  exact rn_iret .int dX5_count_237 rfl rfl (Or.inl rfl) (ok_some hf :)
