/-! a clause of one, two or three numbers -/
section CLAUSE2
variable {l : Nat} {X : Nat → Int32}
def Sb (FC FR : AH → Option (Int32 × AH)) (l : Nat) (X : Nat → Int32) (τ : TT) (p : Nat) (ok : Bool) (b e : Nat) (τ' : TT) : Prop :=
  b ≤ l ∧ e ≤ l ∧ (ok = true → VT2 τ') ∧
  (∀ h, Lo h → TextC h l X → hI h 1 4 = nI p → CT h 10 τ → ∃ h', FC h = some (bI ok, h') ∧ Dc h h' ∧ hI h' 1 3 = nI b ∧ hI h' 1 4 = nI e ∧ (ok = true → CT h' 10 τ')) ∧
  (∀ h, Lo h → TextR h l X → hI h 145 11 = nI p → RT0 (hI h 147) τ → ∃ h', FR h = some (bI ok, h') ∧ Dr h h' ∧ hI h' 145 12 = nI b ∧ hI h' 145 11 = nI e ∧ (ok = true → RT0 (hI h' 147) τ'))
theorem bz_b (b : Bool) : bz (bI b) = some (bI b) := by cases b <;> decide
theorem or_b (b : Bool) (h : AH) : (if bI b = 0 then some ((0 : Int32), h) else some (1, h)) = some (bI b, h) := by cases b <;> rfl
theorem place_of {τ : TT} {pos : Nat} {ok : Bool} {b e : Nat} {τ' : TT} (hl : l ≤ 160) (hX : ∀ i, i < l → ∃ c, c ≤ 255 ∧ X i = nI c) (hp : pos ≤ l) (hP : tP τ < 8) (hr : rdB X (tB X l pos) (tE X l (tB X l pos)) 2 = true)
    (S : Sb (fun h => F_X1_readPlace h 1 10) (fun h => F_X5_readsPlace h 145) l X τ (tE X l (tB X l pos)) ok b e τ') : Cl l X τ pos ok b e τ' := by
  obtain ⟨s1, s2, s3, s4, s5⟩ := S
  have hz := rd_not (show 2 < 8 by decide) hr
  refine ⟨s1, s2, s3, fun h H C e4 T => ?_, fun h H C e4 R => ?_⟩
  · obtain ⟨h1, k2, k3, k4, k5⟩ := c_cl hl H C hp e4
    have H1 := H.fr k2.1
    have T1 := T.tx k2
    obtain ⟨h', n1, n2, n3, n4, n5⟩ := s4 h1 H1 (C.tx k2 (by decide)) k4 T1
    have n1 : F_X1_readPlace h1 1 10 = some (bI ok, h') := n1
    have n8 : ¬ (8 : Int32) ≤ nI (tP τ) := nI_ge (b := 8) (by omega) (by omega)
    refine ⟨h', ?_, k2.dc.trans n2, n3, n4, n5⟩
    rw [k5, hz 0 (by decide) (by decide), hz 1 (by decide) (by decide), hr, if_pos bI_f, if_pos bI_f, if_neg bI_t, t_gI H1 to_10, Option.bind_some, T1.1, if_neg n8, n1, Option.bind_some, or_b]
  · obtain ⟨h1, k1, k2, k3, k4, k5, k6⟩ := r_cl hl hX hp H C e4 (show 2 < 8 by decide) hr
    have H1 := H.fs k2.1
    obtain ⟨h', n1, n2, n3, n4, n5⟩ := s5 h1 H1 (C.dr k2.dr) k4 (by rw [k2.1.2.2.2 147 (by decide)]; exact R)
    have n1 : F_X5_readsPlace h1 145 = some (bI ok, h') := n1
    have nk : ∀ k, k < 8 → k ≠ 2 → ∀ K : Int64, K = lN (stW.getD k 0) → ¬ lg_cmp (hL h1 145 14) K = 0 := fun k hk hne K hK z => hne ((k6 k hk K hK).mp z)
    refine ⟨h1, h', k1, ?_, k2.dr.trans n2, n3, n4, n5⟩
    unfold F_X5_readsClause
    rw [o145_ck H1, Option.bind_some, o145_gI H1, Option.bind_some, k5, if_pos rfl, o145_gL H1, Option.bind_some, if_pos (nk 0 (by decide) (by decide) 2036429412 rfl), if_neg (not_not_intro ((k6 2 (by decide) 482854658917 rfl).mpr rfl)), n1, Option.bind_some, bz_b, Option.bind_some]
theorem place_full {τ : TT} {pos : Nat} (hl : l ≤ 160) (hX : ∀ i, i < l → ∃ c, c ≤ 255 ∧ X i = nI c) (hp : pos ≤ l) (hP : tP τ = 8) (hr : rdB X (tB X l pos) (tE X l (tB X l pos)) 2 = true) : Cl l X τ pos false (tB X l pos) (tE X l (tB X l pos)) τ := by
  have hb := tB_le X hp
  have he := tE_le X hb.2
  have hz := rd_not (show 2 < 8 by decide) hr
  refine ⟨hb.2, he.2, (fun z => by cases z), fun h H C e4 T => ?_, fun h H C e4 R => ?_⟩
  · obtain ⟨h1, k2, k3, k4, k5⟩ := c_cl hl H C hp e4
    have H1 := H.fr k2.1
    have T1 := T.tx k2
    refine ⟨h1, ?_, k2.dc, k3, k4, (fun z => by cases z)⟩
    rw [k5, hz 0 (by decide) (by decide), hz 1 (by decide) (by decide), hr, if_pos bI_f, if_pos bI_f, if_neg bI_t, t_gI H1 to_10, Option.bind_some, T1.1, hP]
    rfl
  · obtain ⟨h1, k1, k2, k3, k4, k5, k6⟩ := r_cl hl hX hp H C e4 (show 2 < 8 by decide) hr
    have H1 := H.fs k2.1
    have R1 : RT0 (hI h1 147) τ := by rw [k2.1.2.2.2 147 (by decide)]; exact R
    have nk : ∀ k, k < 8 → k ≠ 2 → ∀ K : Int64, K = lN (stW.getD k 0) → ¬ lg_cmp (hL h1 145 14) K = 0 := fun k hk hne K hK z => hne ((k6 k hk K hK).mp z)
    have n1 : F_X5_readsPlace h1 145 = some (0, h1) := by
      unfold F_X5_readsPlace
      rw [o145_ck H1, Option.bind_some, o145_R1 H1, Option.bind_some, o147_l0 H1, Option.bind_some, R1.1, hP]
      rfl
    refine ⟨h1, h1, k1, ?_, k2.dr, k3, k4, (fun z => by cases z)⟩
    unfold F_X5_readsClause
    rw [o145_ck H1, Option.bind_some, o145_gI H1, Option.bind_some, k5, if_pos rfl, o145_gL H1, Option.bind_some, if_pos (nk 0 (by decide) (by decide) 2036429412 rfl), if_neg (not_not_intro ((k6 2 (by decide) 482854658917 rfl).mpr rfl)), n1, Option.bind_some, bz_0, Option.bind_some]
    rfl
theorem sb_place {τ : TT} {p : Nat} (hl : l ≤ 160) (hX : ∀ i, i < l → ∃ c, c ≤ 255 ∧ X i = nI c) (hp : p ≤ l) (V : VT2 τ) (hP : tP τ < 8) : ∃ ok b e τ', Sb (fun h => F_X1_readPlace h 1 10) (fun h => F_X5_readsPlace h 145) l X τ p ok b e τ' := by
  have hb1 := tB_le X hp
  have he1 := tE_le X hb1.2
  have hb2 := tB_le X he1.2
  have he2 := tE_le X hb2.2
  have hb3 := tB_le X he2.2
  have he3 := tE_le X hb3.2
  by_cases o1 : nOK X l p 7
  · by_cases o2 : nOK X l (tE X l (tB X l p)) 9
    · by_cases o3 : nOK X l (tE X l (tB X l (tE X l (tB X l p)))) 9
      · refine ⟨true, tB X l (tE X l (tB X l (tE X l (tB X l p)))), tE X l (tB X l (tE X l (tB X l (tE X l (tB X l p))))), adP τ (nVl X l p) (nVl X l (tE X l (tB X l p))) (nVl X l (tE X l (tB X l (tE X l (tB X l p))))), hb3.2, he3.2, fun _ => vt_adP V hP (nOK_v (by decide) o1) (nOK_v (by decide) o2) (nOK_v (by decide) o3), fun h H C e4 T => ?_, fun h H C e4 R => ?_⟩
        · obtain ⟨h', D, hc⟩ := c_place hl hp H C e4 T hP
          rcases hc with ⟨-, -, -, q1, q2, q3, q4⟩ | ⟨-, -, z, -⟩ | ⟨-, z, -⟩ | ⟨z, -⟩
          · exact ⟨h', q1, D, q2, q3, fun _ => q4⟩
          · exact absurd o3 z
          · exact absurd o2 z
          · exact absurd o1 z
        · obtain ⟨h', D, c1, c2, c3, c4⟩ := r_place hl hX hp H C e4 R V.1 hP
          obtain ⟨q1, q2, q3, q4⟩ := c1 o1 o2 o3
          exact ⟨h', q1, D, q2, q3, fun _ => q4⟩
      · refine ⟨false, tB X l (tE X l (tB X l (tE X l (tB X l p)))), tE X l (tB X l (tE X l (tB X l (tE X l (tB X l p))))), τ, hb3.2, he3.2, (fun z => by cases z), fun h H C e4 T => ?_, fun h H C e4 R => ?_⟩
        · obtain ⟨h', D, hc⟩ := c_place hl hp H C e4 T hP
          rcases hc with ⟨-, -, z, -⟩ | ⟨-, -, -, q1, q2, q3⟩ | ⟨-, z, -⟩ | ⟨z, -⟩
          · exact absurd z o3
          · exact ⟨h', q1, D, q2, q3, (fun z => by cases z)⟩
          · exact absurd o2 z
          · exact absurd o1 z
        · obtain ⟨h', D, c1, c2, c3, c4⟩ := r_place hl hX hp H C e4 R V.1 hP
          obtain ⟨q1, q2, q3⟩ := c2 o1 o2 o3
          exact ⟨h', q1, D, q2, q3, (fun z => by cases z)⟩
    · refine ⟨false, tB X l (tE X l (tB X l p)), tE X l (tB X l (tE X l (tB X l p))), τ, hb2.2, he2.2, (fun z => by cases z), fun h H C e4 T => ?_, fun h H C e4 R => ?_⟩
      · obtain ⟨h', D, hc⟩ := c_place hl hp H C e4 T hP
        rcases hc with ⟨-, z, -⟩ | ⟨-, z, -⟩ | ⟨-, -, q1, q2, q3⟩ | ⟨z, -⟩
        · exact absurd z o2
        · exact absurd z o2
        · exact ⟨h', q1, D, q2, q3, (fun z => by cases z)⟩
        · exact absurd o1 z
      · obtain ⟨h', D, c1, c2, c3, c4⟩ := r_place hl hX hp H C e4 R V.1 hP
        obtain ⟨q1, q2, q3⟩ := c3 o1 o2
        exact ⟨h', q1, D, q2, q3, (fun z => by cases z)⟩
  · refine ⟨false, tB X l p, tE X l (tB X l p), τ, hb1.2, he1.2, (fun z => by cases z), fun h H C e4 T => ?_, fun h H C e4 R => ?_⟩
    · obtain ⟨h', D, hc⟩ := c_place hl hp H C e4 T hP
      rcases hc with ⟨z, -⟩ | ⟨z, -⟩ | ⟨z, -⟩ | ⟨-, q1, q2, q3⟩
      · exact absurd z o1
      · exact absurd z o1
      · exact absurd z o1
      · exact ⟨h', q1, D, q2, q3, (fun z => by cases z)⟩
    · obtain ⟨h', D, c1, c2, c3, c4⟩ := r_place hl hX hp H C e4 R V.1 hP
      obtain ⟨q1, q2, q3⟩ := c4 o1
      exact ⟨h', q1, D, q2, q3, (fun z => by cases z)⟩
theorem news_of {τ : TT} {pos : Nat} {ok : Bool} {b e : Nat} {τ' : TT} (hl : l ≤ 160) (hX : ∀ i, i < l → ∃ c, c ≤ 255 ∧ X i = nI c) (hp : pos ≤ l) (hr : rdB X (tB X l pos) (tE X l (tB X l pos)) 3 = true)
    (S : Sb (fun h => F_X1_readNews h 1 10) (fun h => F_X5_readsNews h 145) l X τ (tE X l (tB X l pos)) ok b e τ') : Cl l X τ pos ok b e τ' := by
  obtain ⟨s1, s2, s3, s4, s5⟩ := S
  have hz := rd_not (show 3 < 8 by decide) hr
  refine ⟨s1, s2, s3, fun h H C e4 T => ?_, fun h H C e4 R => ?_⟩
  · obtain ⟨h1, k2, k3, k4, k5⟩ := c_cl hl H C hp e4
    have H1 := H.fr k2.1
    have T1 := T.tx k2
    obtain ⟨h', n1, n2, n3, n4, n5⟩ := s4 h1 H1 (C.tx k2 (by decide)) k4 T1
    have n1 : F_X1_readNews h1 1 10 = some (bI ok, h') := n1
    refine ⟨h', ?_, k2.dc.trans n2, n3, n4, n5⟩
    rw [k5, hz 0 (by decide) (by decide), hz 1 (by decide) (by decide), hz 2 (by decide) (by decide), hr, if_pos bI_f, if_pos bI_f, if_pos bI_f, if_neg bI_t, n1, Option.bind_some, bz_b, Option.bind_some]
  · obtain ⟨h1, k1, k2, k3, k4, k5, k6⟩ := r_cl hl hX hp H C e4 (show 3 < 8 by decide) hr
    have H1 := H.fs k2.1
    obtain ⟨h', n1, n2, n3, n4, n5⟩ := s5 h1 H1 (C.dr k2.dr) k4 (by rw [k2.1.2.2.2 147 (by decide)]; exact R)
    have n1 : F_X5_readsNews h1 145 = some (bI ok, h') := n1
    have nk : ∀ k, k < 8 → k ≠ 3 → ∀ K : Int64, K = lN (stW.getD k 0) → ¬ lg_cmp (hL h1 145 14) K = 0 := fun k hk hne K hK z => hne ((k6 k hk K hK).mp z)
    refine ⟨h1, h', k1, ?_, k2.dr.trans n2, n3, n4, n5⟩
    unfold F_X5_readsClause
    rw [o145_ck H1, Option.bind_some, o145_gI H1, Option.bind_some, k5, if_pos rfl, o145_gL H1, Option.bind_some, if_pos (nk 0 (by decide) (by decide) 2036429412 rfl), if_pos (nk 2 (by decide) (by decide) 482854658917 rfl), if_neg (not_not_intro ((k6 3 (by decide) 1852143475 rfl).mpr rfl)), n1, Option.bind_some, bz_b, Option.bind_some]
theorem sb_news {τ : TT} {p : Nat} (hl : l ≤ 160) (hX : ∀ i, i < l → ∃ c, c ≤ 255 ∧ X i = nI c) (hp : p ≤ l) (V : VT2 τ) : ∃ ok b e τ', Sb (fun h => F_X1_readNews h 1 10) (fun h => F_X5_readsNews h 145) l X τ p ok b e τ' := by
  have hb1 := tB_le X hp
  have he1 := tE_le X hb1.2
  have hb2 := tB_le X he1.2
  have he2 := tE_le X hb2.2
  have z7 : (7 : Int32) = nI 7 := rfl
  have z13 : (13 : Int32) = nI 13 := rfl
  have q10 : ¬ (1 : Int32) = 0 := by decide
  by_cases o1 : nOK X l p 13
  · obtain ⟨v1, hv1, ev1⟩ := nOK_v (by decide) o1
    have n1 : ¬ nVl X l p = -1 := by rw [ev1]; exact nI_m1 (by omega)
    by_cases o2 : nOK X l (tE X l (tB X l p)) 7
    · obtain ⟨v2, hv2, ev2⟩ := nOK_v (by decide) o2
      have n2 : ¬ nVl X l (tE X l (tB X l p)) = -1 := by rw [ev2]; exact nI_m1 (by omega)
      refine ⟨true, tB X l (tE X l (tB X l p)), tE X l (tB X l (tE X l (tB X l p))), nwT τ v1 (nVl X l (tE X l (tB X l p))), hb2.2, he2.2, fun _ => vt_nw V ⟨v2, hv2, ev2⟩, fun h H C e4 T => ?_, fun h H C e4 R => ?_⟩
      · obtain ⟨h1, a1, a2, a3, a4, a5⟩ := c_num hl H C hp e4 13
        have H1 := H.fr a1.1
        have C1 := C.tx a1 (by decide)
        obtain ⟨h2, b1, b2, b3, b4, b5⟩ := c_num hl H1 C1 he1.2 a3 7
        have H2 := H1.fr b1.1
        have T2 := (T.tx a1).tx b1
        have F3 : Fr h2 (sI h2 (10 + 6) v1 (nVl X l (tE X l (tB X l p)))) 10 17 := (Fr.refl h2 _ _).sA (by omega) (by omega)
        refine ⟨_, ?_, (a1.dc.trans b1.dc).trans F3.dc, ?_, ?_, fun _ => c_setN T2 v1 _⟩
        · show F_X1_readNews h 1 10 = _
          unfold F_X1_readNews
          rw [o1_ck H, Option.bind_some, z13, z7, a4 o1, Option.bind_some, if_pos n1, b4 o2, Option.bind_some, if_pos n2, t_R7 H2 to_10, Option.bind_some]
          show Option.bind (stA h2 (10 + 6) 10 (nVl X l p) _) _ = _
          rw [ev1, op_stA H2 (t_ls6 to_10).1 (t_ls6 to_10).2 (by omega) (by omega), Option.bind_some]
          rfl
        · rw [sI_ob _ _ _ _ _ (by decide)]; exact b2
        · rw [sI_ob _ _ _ _ _ (by decide)]; exact b3
      · obtain ⟨h1, a1, a2, a3, a4, a5⟩ := r_num hl hX H C hp e4 13
        have H1 := H.fs a1.1
        have C1 := C.dr a1.dr
        obtain ⟨a6, a7⟩ := a4 o1
        obtain ⟨h2, b1, b2, b3, b4, b5⟩ := r_num hl hX H1 C1 he1.2 a3 7
        have H2 := H1.fs b1.1
        obtain ⟨b6, b7⟩ := b4 o2
        have F3 : Fs h2 (sI h2 147 (36 + v1) (nVl X l (tE X l (tB X l p)))) [147] := (Fs.refl h2 _).sA (by decide)
        refine ⟨_, ?_, (a1.dr.trans b1.dr).trans F3.dr, ?_, ?_, fun _ => ?_⟩
        · show F_X5_readsNews h 145 = _
          unfold F_X5_readsNews
          rw [o145_ck H, Option.bind_some, z13, z7, a6, Option.bind_some, if_pos q10, o145_gI H1, Option.bind_some, b6, Option.bind_some, if_pos q10, o145_R1 H2, Option.bind_some, o145_gI H2, Option.bind_some, a7, b7, ev1, al_36, o147_st H2 (by omega), Option.bind_some]
          rfl
        · rw [sI_ob _ _ _ _ _ (by decide)]; exact b2
        · rw [sI_ob _ _ _ _ _ (by decide)]; exact b3
        · rw [hI_sA, if_pos rfl, b1.1.2.2.2 147 (by decide), a1.1.2.2.2 147 (by decide)]
          exact rt_nw R V.1 v1 _
    · refine ⟨false, tB X l (tE X l (tB X l p)), tE X l (tB X l (tE X l (tB X l p))), τ, hb2.2, he2.2, (fun z => by cases z), fun h H C e4 T => ?_, fun h H C e4 R => ?_⟩
      · obtain ⟨h1, a1, a2, a3, a4, a5⟩ := c_num hl H C hp e4 13
        have H1 := H.fr a1.1
        have C1 := C.tx a1 (by decide)
        obtain ⟨h2, b1, b2, b3, b4, b5⟩ := c_num hl H1 C1 he1.2 a3 7
        refine ⟨h2, ?_, a1.dc.trans b1.dc, b2, b3, (fun z => by cases z)⟩
        show F_X1_readNews h 1 10 = _
        unfold F_X1_readNews
        rw [o1_ck H, Option.bind_some, z13, z7, a4 o1, Option.bind_some, if_pos n1, b5 o2, Option.bind_some, if_neg (not_not_intro rfl)]
        rfl
      · obtain ⟨h1, a1, a2, a3, a4, a5⟩ := r_num hl hX H C hp e4 13
        have H1 := H.fs a1.1
        have C1 := C.dr a1.dr
        obtain ⟨a6, a7⟩ := a4 o1
        obtain ⟨h2, b1, b2, b3, b4, b5⟩ := r_num hl hX H1 C1 he1.2 a3 7
        refine ⟨h2, ?_, a1.dr.trans b1.dr, b2, b3, (fun z => by cases z)⟩
        show F_X5_readsNews h 145 = _
        unfold F_X5_readsNews
        rw [o145_ck H, Option.bind_some, z13, z7, a6, Option.bind_some, if_pos q10, o145_gI H1, Option.bind_some, b5 o2, Option.bind_some, if_neg (not_not_intro rfl)]
        rfl
  · refine ⟨false, tB X l p, tE X l (tB X l p), τ, hb1.2, he1.2, (fun z => by cases z), fun h H C e4 T => ?_, fun h H C e4 R => ?_⟩
    · obtain ⟨h1, a1, a2, a3, a4, a5⟩ := c_num hl H C hp e4 13
      refine ⟨h1, ?_, a1.dc, a2, a3, (fun z => by cases z)⟩
      show F_X1_readNews h 1 10 = _
      unfold F_X1_readNews
      rw [o1_ck H, Option.bind_some, z13, z7, a5 o1, Option.bind_some, if_neg (not_not_intro rfl)]
      rfl
    · obtain ⟨h1, a1, a2, a3, a4, a5⟩ := r_num hl hX H C hp e4 13
      refine ⟨h1, ?_, a1.dr, a2, a3, (fun z => by cases z)⟩
      show F_X5_readsNews h 145 = _
      unfold F_X5_readsNews
      rw [o145_ck H, Option.bind_some, z13, z7, a5 o1, Option.bind_some, if_neg (not_not_intro rfl)]
      rfl
theorem kd_c {b : Nat} {c : Nat} (hc : c < 4) (hr : rdB X b (tE X l b) (4 + c) = true) : (if rdB X b (tE X l b) 4 then (0 : Int32) else if rdB X b (tE X l b) 5 then 1 else if rdB X b (tE X l b) 6 then 2 else if rdB X b (tE X l b) 7 then 3 else -1) = nI c := by
  have hz := rd_not (show 4 + c < 8 by omega) hr
  have hc : c = 0 ∨ c = 1 ∨ c = 2 ∨ c = 3 := by omega
  rcases hc with rfl | rfl | rfl | rfl
  · rw [if_pos hr]; rfl
  · rw [hz 4 (by decide) (by decide), if_neg ff, if_pos hr]; rfl
  · rw [hz 4 (by decide) (by decide), hz 5 (by decide) (by decide), if_neg ff, if_neg ff, if_pos hr]; rfl
  · rw [hz 4 (by decide) (by decide), hz 5 (by decide) (by decide), hz 6 (by decide) (by decide), if_neg ff, if_neg ff, if_neg ff, if_pos hr]; rfl
theorem kr_c {x : Int64} {c : Nat} (hc : c < 4) (k6 : ∀ k, k < 8 → ∀ K : Int64, K = lN (stW.getD k 0) → (lg_cmp x K = 0 ↔ k = 4 + c)) : (if ¬ (lg_cmp x 465491813746) = 0 then
                if ¬ (lg_cmp x 108243635364985) = 0 then
                  if ¬ (lg_cmp x 123649632527732) = 0 then
                    if ¬ (lg_cmp x 426953502305) = 0 then
                      some (-1 : Int32)
                    else
                      some 3
                  else
                    some 2
                else
                  some 1
              else
                some 0) = some (nI c) := by
  have i4 := k6 4 (by decide) 465491813746 rfl
  have i5 := k6 5 (by decide) 108243635364985 rfl
  have i6 := k6 6 (by decide) 123649632527732 rfl
  have i7 := k6 7 (by decide) 426953502305 rfl
  have hc : c = 0 ∨ c = 1 ∨ c = 2 ∨ c = 3 := by omega
  rcases hc with rfl | rfl | rfl | rfl
  · rw [if_neg (not_not_intro (i4.mpr rfl))]; rfl
  · rw [if_pos (fun z => absurd (i4.mp z) (by decide)), if_neg (not_not_intro (i5.mpr rfl))]; rfl
  · rw [if_pos (fun z => absurd (i4.mp z) (by decide)), if_pos (fun z => absurd (i5.mp z) (by decide)), if_neg (not_not_intro (i6.mpr rfl))]; rfl
  · rw [if_pos (fun z => absurd (i4.mp z) (by decide)), if_pos (fun z => absurd (i5.mp z) (by decide)), if_pos (fun z => absurd (i6.mp z) (by decide)), if_neg (not_not_intro (i7.mpr rfl))]; rfl
theorem hen_of {τ : TT} {pos : Nat} {ok : Bool} {b e : Nat} {τ' : TT} {c : Nat} (hc : c < 4) (hl : l ≤ 160) (hX : ∀ i, i < l → ∃ c, c ≤ 255 ∧ X i = nI c) (hp : pos ≤ l) (hr : rdB X (tB X l pos) (tE X l (tB X l pos)) (4 + c) = true)
    (S : Sb (fun h => if (5 : Int32) ≤ nI (tH τ) then some (0, h) else F_X1_readHen h 1 10 (nI c)) (fun h => F_X5_readsHen h 145 (nI c)) l X τ (tE X l (tB X l pos)) ok b e τ') : Cl l X τ pos ok b e τ' := by
  obtain ⟨s1, s2, s3, s4, s5⟩ := S
  have hz := rd_not (show 4 + c < 8 by omega) hr
  have hb := tB_le X hp
  have he := tE_le X hb.2
  refine ⟨s1, s2, s3, fun h H C e4 T => ?_, fun h H C e4 R => ?_⟩
  · obtain ⟨h1, k2, k3, k4, k5⟩ := c_cl hl H C hp e4
    have H1 := H.fr k2.1
    have C1 := C.tx k2 (by decide)
    have T1 := T.tx k2
    obtain ⟨h', n1, n2, n3, n4, n5⟩ := s4 h1 H1 C1 k4 T1
    have n1 : (if (5 : Int32) ≤ nI (tH τ) then some (0, h1) else F_X1_readHen h1 1 10 (nI c)) = some (bI ok, h') := n1
    refine ⟨h', ?_, k2.dc.trans n2, n3, n4, n5⟩
    rw [k5, hz 0 (by decide) (by omega), hz 1 (by decide) (by omega), hz 2 (by decide) (by omega), hz 3 (by decide) (by omega), if_pos bI_f, if_pos bI_f, if_pos bI_f, if_pos bI_f, c_kind hl H1 C1 k3 k4 he.1 he.2, kd_c hc hr, Option.bind_some, if_neg (nI_m1 (by omega)), t_gI H1 to_10, Option.bind_some, T1.2.1]
    by_cases h5 : (5 : Int32) ≤ nI (tH τ)
    · rw [if_pos h5] at n1 ⊢
      exact n1
    · rw [if_neg h5] at n1 ⊢
      rw [n1, Option.bind_some, or_b]
  · obtain ⟨h1, k1, k2, k3, k4, k5, k6⟩ := r_cl hl hX hp H C e4 (show 4 + c < 8 by omega) hr
    have H1 := H.fs k2.1
    obtain ⟨h', n1, n2, n3, n4, n5⟩ := s5 h1 H1 (C.dr k2.dr) k4 (by rw [k2.1.2.2.2 147 (by decide)]; exact R)
    have n1 : F_X5_readsHen h1 145 (nI c) = some (bI ok, h') := n1
    have nk : ∀ k, k < 4 → ∀ K : Int64, K = lN (stW.getD k 0) → ¬ lg_cmp (hL h1 145 14) K = 0 := fun k hk K hK z => absurd ((k6 k (by omega) K hK).mp z) (by omega)
    refine ⟨h1, h', k1, ?_, k2.dr.trans n2, n3, n4, n5⟩
    unfold F_X5_readsClause
    rw [o145_ck H1, Option.bind_some, o145_gI H1, Option.bind_some, k5, if_pos rfl, o145_gL H1, Option.bind_some, if_pos (nk 0 (by decide) 2036429412 rfl), if_pos (nk 2 (by decide) 482854658917 rfl), if_pos (nk 3 (by decide) 1852143475 rfl), if_pos (nk 1 (by decide) 1667329133 rfl), kr_c hc k6, Option.bind_some, if_neg (nI_pos (by omega)), n1, Option.bind_some, or_b]
theorem sb_hen {τ : TT} {p b0 e0 : Nat} {c : Nat} (hc : c < 4) (hl : l ≤ 160) (hX : ∀ i, i < l → ∃ c, c ≤ 255 ∧ X i = nI c) (hp : p ≤ l) (V : VT2 τ) (hh : tH τ < 5) : ∃ ok b e τ', Sb (fun h => if (5 : Int32) ≤ nI (tH τ) then some (0, h) else F_X1_readHen h 1 10 (nI c)) (fun h => F_X5_readsHen h 145 (nI c)) l X τ p ok b e τ' := by
  have hb1 := tB_le X hp
  have he1 := tE_le X hb1.2
  have z9 : (9 : Int32) = nI 9 := rfl
  have q10 : ¬ (1 : Int32) = 0 := by decide
  have n5 : ¬ (5 : Int32) ≤ nI (tH τ) := nI_ge (b := 5) hh (by omega)
  have m5 : ¬ nI (tH τ) = 5 := fun z => by
    have := (nI_eq (a := tH τ) (b := 5) (by omega) (by omega)).mp z
    omega
  by_cases o1 : nOK X l p 9
  · obtain ⟨v1, hv1, ev1⟩ := nOK_v (by decide) o1
    have n1 : ¬ nVl X l p = -1 := by rw [ev1]; exact nI_m1 (by omega)
    refine ⟨true, tB X l p, tE X l (tB X l p), adH τ (nI c) (nVl X l p), hb1.2, he1.2, fun _ => vt_adH V hh ⟨c, by omega, rfl⟩ ⟨v1, hv1, ev1⟩, fun h H C e4 T => ?_, fun h H C e4 R => ?_⟩
    · obtain ⟨h1, a1, a2, a3, a4, a5⟩ := c_num hl H C hp e4 9
      have H1 := H.fr a1.1
      obtain ⟨h2, d1, d2, d3⟩ := c_addH H1 (T.tx a1) hh (nI c) (nVl X l p)
      refine ⟨h2, ?_, a1.dc.trans d2.dc, by rw [d2.2.2.2 1 (by omega)]; exact a2, by rw [d2.2.2.2 1 (by omega)]; exact a3, fun _ => d3⟩
      show (if (5 : Int32) ≤ nI (tH τ) then some (0, h) else F_X1_readHen h 1 10 (nI c)) = _
      unfold F_X1_readHen
      rw [if_neg n5, o1_ck H, Option.bind_some, z9, a4 o1, Option.bind_some, if_pos n1, d1, Option.bind_some]
      rfl
    · obtain ⟨h1, a1, a2, a3, a4, a5⟩ := r_num hl hX H C hp e4 9
      have H1 := H.fs a1.1
      obtain ⟨a6, a7⟩ := a4 o1
      have H2 : Lo (sI h1 147 (26 + tH τ) (nI c)) := H1.sA _ _
      have H3 : Lo (sI (sI h1 147 (26 + tH τ) (nI c)) 147 (31 + tH τ) (nVl X l p)) := H2.sA _ _
      have e147 : hI h1 147 = hI h 147 := a1.1.2.2.2 147 (by decide)
      have a8 : hI (sI h1 147 (26 + tH τ) (nI c)) 145 15 = nVl X l p := by rw [sI_ob _ _ _ _ _ (by decide)]; exact a7
      have e25 : hI (sI (sI h1 147 (26 + tH τ) (nI c)) 147 (31 + tH τ) (nVl X l p)) 147 25 = nI (tH τ) := by
        rw [sI_ne _ _ _ _ _ (by omega), sI_ne _ _ _ _ _ (by omega), e147]; exact R.2.1
      have F4 : Fs h1 (sI (sI (sI h1 147 (26 + tH τ) (nI c)) 147 (31 + tH τ) (nVl X l p)) 147 25 (nI (tH τ + 1))) [147] := (((Fs.refl h1 _).sA (by decide)).sA (by decide)).sA (by decide)
      refine ⟨_, ?_, a1.dr.trans F4.dr, ?_, ?_, fun _ => ?_⟩
      · show F_X5_readsHen h 145 (nI c) = _
        unfold F_X5_readsHen
        rw [o145_ck H, Option.bind_some, o145_R1 H, Option.bind_some, o147_l25 H, Option.bind_some, R.2.1, if_neg m5, al_26, al_31, z9, a6, Option.bind_some, if_pos q10, o145_R1 H1, Option.bind_some, o147_st H1 (by omega), Option.bind_some, o145_R1 H2, Option.bind_some, o145_gI H2, Option.bind_some, a8, o147_st H2 (by omega), Option.bind_some, o145_R1 H3, Option.bind_some, o147_l25 H3, Option.bind_some, e25, nI_1, o147_s25 H3, Option.bind_some]
        rfl
      · rw [F4.2.2.2 145 (by decide)]; exact a2
      · rw [F4.2.2.2 145 (by decide)]; exact a3
      · rw [hI_sA, if_pos rfl, hI_sA, if_pos rfl, hI_sA, if_pos rfl, e147]
        exact rt_adH R V.1 hh _ _
  · refine ⟨false, tB X l p, tE X l (tB X l p), τ, hb1.2, he1.2, (fun z => by cases z), fun h H C e4 T => ?_, fun h H C e4 R => ?_⟩
    · obtain ⟨h1, a1, a2, a3, a4, a5⟩ := c_num hl H C hp e4 9
      refine ⟨h1, ?_, a1.dc, a2, a3, (fun z => by cases z)⟩
      show (if (5 : Int32) ≤ nI (tH τ) then some (0, h) else F_X1_readHen h 1 10 (nI c)) = _
      unfold F_X1_readHen
      rw [if_neg n5, o1_ck H, Option.bind_some, z9, a5 o1, Option.bind_some, if_neg (not_not_intro rfl)]
      rfl
    · obtain ⟨h1, a1, a2, a3, a4, a5⟩ := r_num hl hX H C hp e4 9
      refine ⟨h1, ?_, a1.dr, a2, a3, (fun z => by cases z)⟩
      show F_X5_readsHen h 145 (nI c) = _
      unfold F_X5_readsHen
      rw [o145_ck H, Option.bind_some, o145_R1 H, Option.bind_some, o147_l25 H, Option.bind_some, R.2.1, if_neg m5, z9, a5 o1, Option.bind_some, if_neg (not_not_intro rfl)]
      rfl
theorem hen_full {τ : TT} {pos : Nat} {c : Nat} (hc : c < 4) (hl : l ≤ 160) (hX : ∀ i, i < l → ∃ c, c ≤ 255 ∧ X i = nI c) (hp : pos ≤ l) (hh : tH τ = 5) (hr : rdB X (tB X l pos) (tE X l (tB X l pos)) (4 + c) = true) : Cl l X τ pos false (tB X l pos) (tE X l (tB X l pos)) τ := by
  have hz := rd_not (show 4 + c < 8 by omega) hr
  have hb := tB_le X hp
  have he := tE_le X hb.2
  refine ⟨hb.2, he.2, (fun z => by cases z), fun h H C e4 T => ?_, fun h H C e4 R => ?_⟩
  · obtain ⟨h1, k2, k3, k4, k5⟩ := c_cl hl H C hp e4
    have H1 := H.fr k2.1
    have C1 := C.tx k2 (by decide)
    have T1 := T.tx k2
    refine ⟨h1, ?_, k2.dc, k3, k4, (fun z => by cases z)⟩
    rw [k5, hz 0 (by decide) (by omega), hz 1 (by decide) (by omega), hz 2 (by decide) (by omega), hz 3 (by decide) (by omega), if_pos bI_f, if_pos bI_f, if_pos bI_f, if_pos bI_f, c_kind hl H1 C1 k3 k4 he.1 he.2, kd_c hc hr, Option.bind_some, if_neg (nI_m1 (by omega)), t_gI H1 to_10, Option.bind_some, T1.2.1, hh]
    rfl
  · obtain ⟨h1, k1, k2, k3, k4, k5, k6⟩ := r_cl hl hX hp H C e4 (show 4 + c < 8 by omega) hr
    have H1 := H.fs k2.1
    have R1 : RT0 (hI h1 147) τ := by rw [k2.1.2.2.2 147 (by decide)]; exact R
    have n1 : F_X5_readsHen h1 145 (nI c) = some (0, h1) := by
      unfold F_X5_readsHen
      rw [o145_ck H1, Option.bind_some, o145_R1 H1, Option.bind_some, o147_l25 H1, Option.bind_some, R1.2.1, hh]
      rfl
    have nk : ∀ k, k < 4 → ∀ K : Int64, K = lN (stW.getD k 0) → ¬ lg_cmp (hL h1 145 14) K = 0 := fun k hk K hK z => absurd ((k6 k (by omega) K hK).mp z) (by omega)
    refine ⟨h1, h1, k1, ?_, k2.dr, k3, k4, (fun z => by cases z)⟩
    unfold F_X5_readsClause
    rw [o145_ck H1, Option.bind_some, o145_gI H1, Option.bind_some, k5, if_pos rfl, o145_gL H1, Option.bind_some, if_pos (nk 0 (by decide) 2036429412 rfl), if_pos (nk 2 (by decide) 482854658917 rfl), if_pos (nk 3 (by decide) 1852143475 rfl), if_pos (nk 1 (by decide) 1667329133 rfl), kr_c hc k6, Option.bind_some, if_neg (nI_pos (by omega)), n1, Option.bind_some, if_pos rfl]
    rfl
theorem clause {τ : TT} {pos : Nat} (V : VT2 τ) (hl : l ≤ 160) (hX : ∀ i, i < l → ∃ c, c ≤ 255 ∧ X i = nI c) (hp : pos ≤ l) : ∃ ok b e τ', Cl l X τ pos ok b e τ' := by
  have hb := tB_le X hp
  have he := tE_le X hb.2
  by_cases hn : ∃ i, i < 8 ∧ rdB X (tB X l pos) (tE X l (tB X l pos)) i = true
  · obtain ⟨i, hi, hr⟩ := hn
    have hc : i = 0 ∨ i = 1 ∨ i = 2 ∨ i = 3 ∨ ∃ c, c < 4 ∧ i = 4 + c := by
      by_cases h4 : i < 4
      · omega
      · exact Or.inr (Or.inr (Or.inr (Or.inr ⟨i - 4, by omega, by omega⟩)))
    rcases hc with rfl | rfl | rfl | rfl | ⟨c, hc, rfl⟩
    · exact ⟨_, _, _, _, cl_yard hl hX hp hr⟩
    · exact ⟨_, _, _, _, cl_calm hl hX hp V hr⟩
    · by_cases hP : tP τ < 8
      · obtain ⟨ok, b, e, τ', S⟩ := sb_place hl hX he.2 V hP
        exact ⟨ok, b, e, τ', place_of hl hX hp hP hr S⟩
      · have := V.1.1
        exact ⟨_, _, _, _, place_full hl hX hp (by omega) hr⟩
    · obtain ⟨ok, b, e, τ', S⟩ := sb_news hl hX he.2 V
      exact ⟨ok, b, e, τ', news_of hl hX hp hr S⟩
    · by_cases hP : tH τ < 5
      · obtain ⟨ok, b, e, τ', S⟩ := sb_hen (b0 := 0) (e0 := 0) hc hl hX he.2 V hP
        exact ⟨ok, b, e, τ', hen_of hc hl hX hp hr S⟩
      · have := V.1.2
        exact ⟨_, _, _, _, hen_full hc hl hX hp (by omega) hr⟩
  · refine ⟨_, _, _, _, cl_none hl hX hp fun i hi => ?_⟩
    cases hz : rdB X (tB X l pos) (tE X l (tB X l pos)) i with
    | false => rfl
    | true => exact absurd ⟨i, hi, hz⟩ hn
end CLAUSE2
