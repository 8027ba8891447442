section STR
variable {G : WG} {M : MD} {pc : Nat} {lv : List (Nat × Value)} {st : List Value} {h : AH} {post : PO} {i : Nat}
theorem T_J0_coder (hi : i < 8) (k : post (some 0) h) : Rn G M_J0_coder_7d493 (0, 0) 0 [(0, .ref (gK G i))] [] h post := by
  refine rn_compact 3 dJ0_coder_7d493_0 rfl f_J0_38 ?_
  refine rn_if_eq 13 6 dJ0_coder_7d493_3 rfl rfl (fun z => absurd z (by decide)) (fun _ => ?_)
  refine rn_aload_n 7 dJ0_coder_7d493_6 rfl rfl ?_
  refine rn_sCoder 10 i dJ0_coder_7d493_7 rfl hi f_J0_15 ?_
  refine rn_goto 14 dJ0_coder_7d493_10 rfl ?_
  exact rn_iret .byte dJ0_coder_7d493_14 rfl rfl (Or.inl rfl) k
theorem T_J0_isLatin1 (hi : i < 8) (k : post (some 1) h) : Rn G M_J0_isLatin1_aae02 (0, 0) 0 [(0, .ref (gK G i))] [] h post := by
  refine rn_compact 3 dJ0_isLatin1_aae02_0 rfl f_J0_38 ?_
  refine rn_if_eq 17 6 dJ0_isLatin1_aae02_3 rfl rfl (fun z => absurd z (by decide)) (fun _ => ?_)
  refine rn_aload_n 7 dJ0_isLatin1_aae02_6 rfl rfl ?_
  refine rn_sCoder 10 i dJ0_isLatin1_aae02_7 rfl hi f_J0_15 ?_
  refine rn_if_ne 17 13 dJ0_isLatin1_aae02_10 rfl rfl (fun z => absurd rfl z) (fun _ => ?_)
  refine rn_iconst 14 dJ0_isLatin1_aae02_13 rfl ic_1 ?_
  refine rn_goto 18 dJ0_isLatin1_aae02_14 rfl ?_
  exact rn_iret .boolean dJ0_isLatin1_aae02_18 rfl rfl (Or.inl rfl) k
theorem sl_shr : ∀ i, i < 8 → (nI (stL.getD i 0)) >>> ((0 : Int32) &&& 31) = nI (stL.getD i 0) := by decide
theorem T_J0_length (hi : i < 8) (k : post (some (nI (stL.getD i 0))) h) : Rn G M_J0_length_8abf5 (0, 0) 0 [(0, .ref (gK G i))] [] h post := by
  refine rn_aload_n 1 dJ0_length_8abf5_0 rfl rfl ?_
  refine rn_sValue 4 i dJ0_length_8abf5_1 rfl hi f_J0_9 ?_
  refine rn_sLen 5 i dJ0_length_8abf5_4 rfl hi ?_
  refine rn_aload_n 6 dJ0_length_8abf5_5 rfl rfl ?_
  refine rn_cTi 9 (0, 0) (M' := M_J0_coder_7d493) (As := []) (st := [.int (nI (stL.getD i 0))]) dJ0_length_8abf5_6 rfl l_J0_335 v_J0_coder_7d493 ⟨Nat.le_of_ble_eq_true rfl, Nat.le_of_ble_eq_true rfl⟩ rfl hi rfl rfl (Nat.le_of_ble_eq_true rfl) (Nat.le_of_ble_eq_true rfl) ⟨rfl, Nat.le_of_ble_eq_true rfl, Nat.le_of_ble_eq_true rfl⟩ (T_J0_coder hi ?_)
  show Rn G M_J0_length_8abf5 (0, 0) 9 _ _ _ _
  refine rn_ishr 10 dJ0_length_8abf5_9 rfl ?_
  refine rn_iret .int dJ0_length_8abf5_10 rfl rfl (Or.inl rfl) ?_
  rw [sl_shr i hi]
  exact k
theorem rn_slen (q : Nat) {idx : Nat} (hd : decode (mC M) pc = .ok (.invokevirtual idx, 3)) (hq : pc + 3 = q) (hl0 : ML (mY M).cls idx M_J0_length_8abf5) (hrm : rmOK M M_J0_length_8abf5) (hi : i < 8) (hst : (st.map fun v => v.category).sum ≤ 8) (kk : Rn G M (0, 0) q lv (.int (nI (stL.getD i 0)) :: st) h post) : Rn G M (0, 0) pc lv (.ref (gK G i) :: st) h post :=
  rn_cTi q (0, 0) (M' := M_J0_length_8abf5) (As := []) (st := st) hd hq hl0 v_J0_length_8abf5 hrm rfl hi rfl rfl hst (Nat.le_of_ble_eq_true rfl) ⟨rfl, Nat.zero_le _, Nat.zero_le _⟩ (T_J0_length hi kk)
theorem T_J3_checkIndex {x n : Int32} {v : Value} (h1 : ¬ x < 0) (h2 : x < n) (k : post (some x) h) : Rn G M_J3_checkIndex_8e157 (0, 0) 0 [(0, .int x), (1, .int n), (2, v)] [] h post := by
  refine rn_iload_n 1 dJ3_checkIndex_8e157_0 rfl rfl ?_
  refine rn_if_lt 9 4 dJ3_checkIndex_8e157_1 rfl rfl (fun z => absurd z h1) (fun _ => ?_)
  refine rn_iload_n 5 dJ3_checkIndex_8e157_4 rfl rfl ?_
  refine rn_iload_n 6 dJ3_checkIndex_8e157_5 rfl rfl ?_
  refine rn_icmp_lt 16 9 dJ3_checkIndex_8e157_6 rfl rfl (fun _ => ?_) (fun z => absurd h2 z)
  refine rn_iload_n 17 dJ3_checkIndex_8e157_16 rfl rfl ?_
  exact rn_iret .int dJ3_checkIndex_8e157_17 rfl rfl (Or.inl rfl) k
theorem lv_args3 {x n : Int32} {v : Value} : lv_args 0 [.int x, .int n, v] = [(0, .int x), (1, .int n), (2, v)] := rfl
theorem sl_len3 {x n : Int32} {v : Value} (hv : v.category = 1) : (lg_sl [.int x, .int n, v]).length ≤ 3 := by
  have h1 : ¬ v.category = 2 := by rw [hv]; decide
  have e : lg_sl [.int x, .int n, v] = [.val (.int x), .val (.int n), .val v] := by
    unfold lg_sl
    simp only [List.flatMap_cons, List.flatMap_nil, if_neg h1]
    rfl
  rw [e]
  exact Nat.le_refl 3
theorem T_J0_checkIndex {x n : Int32} (h1 : ¬ x < 0) (h2 : x < n) (k : post none h) : Rn G M_J0_checkIndex_df160 (0, 0) 0 [(0, .int x), (1, .int n)] [] h post := by
  refine rn_iload_n 1 dJ0_checkIndex_df160_0 rfl rfl ?_
  refine rn_iload_n 2 dJ0_checkIndex_df160_1 rfl rfl ?_
  refine rn_former 5 dJ0_checkIndex_df160_2 rfl f_J0_1053 (fun v hv => ?_)
  refine rn_cSi 8 (0, 0) (M' := M_J3_checkIndex_8e157) (As := [.int x, .int n, v]) (st := []) dJ0_checkIndex_df160_5 rfl l_J0_1059 v_J3_checkIndex_8e157 ⟨Nat.le_of_ble_eq_true rfl, Nat.le_of_ble_eq_true rfl⟩ rfl rfl (Nat.le_of_ble_eq_true rfl) (sl_len3 hv) ⟨rfl, Nat.le_of_ble_eq_true rfl, Nat.le_of_ble_eq_true rfl⟩ ?_
  rw [lv_args3]
  refine T_J3_checkIndex h1 h2 ?_
  show Rn G M_J0_checkIndex_df160 (0, 0) 8 _ _ _ _
  refine rn_pop 9 dJ0_checkIndex_df160_8 rfl rfl ?_
  exact rn_vret dJ0_checkIndex_df160_9 rfl (Or.inl rfl) k
def chB (b : Int32) : Int32 := ((b &&& 255).toUInt32 % 65536).toInt32
theorem ch_nar0 : ∀ i, i < 8 → ∀ j, j < stL.getD i 0 → vp_nar .char (chB ((stB.getD i []).getD j 0)) = chB ((stB.getD i []).getD j 0) := by decide
theorem ch_nar (i : Nat) (hi : i < 8) (x : Int32) (_h1 : ¬ x < 0) (hx : vp_in x (stL.getD i 0)) : narrow .char (.int (chB ((stB.getD i []).getD x.toNatClampNeg 0))) = .int (chB ((stB.getD i []).getD x.toNatClampNeg 0)) := by
  have h3 : x.toNatClampNeg < stL.getD i 0 := Nat.lt_of_not_le (fun z => hx (Or.inr z))
  have e := ch_nar0 i hi _ h3
  exact congrArg Value.int e
theorem T_J1_charAt {x : Int32} (hi : i < 8) (h1 : ¬ x < 0) (h2 : x < nI (stL.getD i 0)) (hx : vp_in x (stL.getD i 0)) (k : post (some (chB ((stB.getD i []).getD x.toNatClampNeg 0))) h) : Rn G M_J1_charAt_3b067 (0, 0) 0 [(0, .ref (gV G i)), (1, .int x)] [] h post := by
  refine rn_iload_n 1 dJ1_charAt_3b067_0 rfl rfl ?_
  refine rn_aload_n 2 dJ1_charAt_3b067_1 rfl rfl ?_
  refine rn_sLen 3 i dJ1_charAt_3b067_2 rfl hi ?_
  refine rn_cSv 6 (0, 0) (M' := M_J0_checkIndex_df160) (As := [.int x, .int (nI (stL.getD i 0))]) (st := []) dJ1_charAt_3b067_3 rfl l_J1_9 v_J0_checkIndex_df160 ⟨Nat.le_of_ble_eq_true rfl, Nat.le_of_ble_eq_true rfl⟩ rfl rfl (Nat.le_of_ble_eq_true rfl) (Nat.le_of_ble_eq_true rfl) ⟨rfl, Nat.le_of_ble_eq_true rfl, Nat.le_of_ble_eq_true rfl⟩ (T_J0_checkIndex h1 h2 ?_)
  show Rn G M_J1_charAt_3b067 (0, 0) 6 _ _ _ _
  refine rn_aload_n 7 dJ1_charAt_3b067_6 rfl rfl ?_
  refine rn_iload_n 8 dJ1_charAt_3b067_7 rfl rfl ?_
  refine rn_sByte 9 i dJ1_charAt_3b067_8 rfl hi hx ?_
  refine rn_sipush 12 dJ1_charAt_3b067_9 rfl sp_255 ?_
  refine rn_iand 13 dJ1_charAt_3b067_12 rfl ?_
  refine rn_i2c 14 dJ1_charAt_3b067_13 rfl ?_
  exact rn_iret .char dJ1_charAt_3b067_14 rfl (ch_nar i hi _ h1 hx) (Or.inl rfl) k
theorem T_J0_charAt {x : Int32} (hi : i < 8) (h1 : ¬ x < 0) (h2 : x < nI (stL.getD i 0)) (hx : vp_in x (stL.getD i 0)) (k : post (some (chB ((stB.getD i []).getD x.toNatClampNeg 0))) h) : Rn G M_J0_charAt_5068e (0, 0) 0 [(0, .ref (gK G i)), (1, .int x)] [] h post := by
  refine rn_aload_n 1 dJ0_charAt_5068e_0 rfl rfl ?_
  refine rn_cTi 4 (0, 0) (M' := M_J0_isLatin1_aae02) (As := []) (st := []) dJ0_charAt_5068e_1 rfl l_J0_492 v_J0_isLatin1_aae02 ⟨Nat.le_of_ble_eq_true rfl, Nat.le_of_ble_eq_true rfl⟩ rfl hi rfl rfl (Nat.le_of_ble_eq_true rfl) (Nat.le_of_ble_eq_true rfl) ⟨rfl, Nat.le_of_ble_eq_true rfl, Nat.le_of_ble_eq_true rfl⟩ (T_J0_isLatin1 hi ?_)
  show Rn G M_J0_charAt_5068e (0, 0) 4 _ _ _ _
  refine rn_if_eq 16 7 dJ0_charAt_5068e_4 rfl rfl (fun z => absurd z (by decide)) (fun _ => ?_)
  refine rn_aload_n 8 dJ0_charAt_5068e_7 rfl rfl ?_
  refine rn_sValue 11 i dJ0_charAt_5068e_8 rfl hi f_J0_9 ?_
  refine rn_iload_n 12 dJ0_charAt_5068e_11 rfl rfl ?_
  refine rn_cSi 15 (0, 0) (M' := M_J1_charAt_3b067) (As := [.ref (gV G i), .int x]) (st := []) dJ0_charAt_5068e_12 rfl l_J0_495 v_J1_charAt_3b067 ⟨Nat.le_of_ble_eq_true rfl, Nat.le_of_ble_eq_true rfl⟩ rfl rfl (Nat.le_of_ble_eq_true rfl) (Nat.le_of_ble_eq_true rfl) ⟨rfl, Nat.le_of_ble_eq_true rfl, Nat.le_of_ble_eq_true rfl⟩ (T_J1_charAt hi h1 h2 hx ?_)
  show Rn G M_J0_charAt_5068e (0, 0) 15 _ _ _ _
  exact rn_iret .char dJ0_charAt_5068e_15 rfl (ch_nar i hi _ h1 hx) (Or.inl rfl) k
theorem chB_id : ∀ i, i < 8 → ∀ j, j < stL.getD i 0 → chB ((stB.getD i []).getD j 0) = (stB.getD i []).getD j 0 := by decide
theorem st_lt : ∀ i, i < 8 → stL.getD i 0 < 10 := by decide
theorem nI_small : ∀ n, n < 10 → (nI n).toInt = (n : Int) := by decide
theorem ro_sAt {β : Type} {P : β → Prop} {f : Int32 → Option β} (q : Nat) {idx : Nat} {x : Int32} (hd : decode (mC M) pc = .ok (.invokevirtual idx, 3)) (hq : pc + 3 = q) (hl0 : ML (mY M).cls idx M_J0_charAt_5068e) (hrm : rmOK M M_J0_charAt_5068e) (hi : i < 8) (hst : (st.map fun v => v.category).sum ≤ 8) (hf : OkA (Option.bind (sAt i x) f) P) (kk : ∀ v, OkA (f v) P → Rn G M (0, 0) q lv (.int v :: st) h post) : Rn G M (0, 0) pc lv (.int x :: .ref (gK G i) :: st) h post := by
  obtain ⟨v, e, hf⟩ := ok_bind hf
  unfold sAt at e
  split at e
  next hc =>
    cases e
    have hv := inB_in hc
    have h1 : ¬ x < 0 := fun z => hv (Or.inl z)
    have h3 : x.toNatClampNeg < stL.getD i 0 := Nat.lt_of_not_le (fun z => hv (Or.inr z))
    have h2 : x < nI (stL.getD i 0) := by
      rw [Int32.lt_iff_toInt_lt, nI_small _ (st_lt i hi)]
      have h4 : x.toNatClampNeg = x.toInt.toNat := rfl
      omega
    refine rn_cTi q (0, 0) (M' := M_J0_charAt_5068e) (As := [.int x]) (st := st) hd hq hl0 v_J0_charAt_5068e hrm rfl hi rfl rfl hst (Nat.le_of_ble_eq_true rfl) ⟨rfl, Nat.zero_le _, Nat.zero_le _⟩ (T_J0_charAt hi h1 h2 hv ?_)
    rw [chB_id i hi _ h3]
    exact kk _ hf
  next => cases e
end STR
