/-! place, hen, news, as: answers without a change -/
theorem op_place {σ : SG} (V : VI σ) (a b : Int32) : Op (fun h => Option.bind (F_X4_place h 0 a b) fun v => some (v, h)) (fun h => Option.bind (F_X5_place h 145 a b) fun v => some (v, h)) σ := by
  have v1 := V.1.1.1
  rcases ixs a (n := tP (zT σ)) (by omega) with hx | ⟨p, hp, rfl⟩
  · refine Op.const (-2) V (fun h H C => ?_) (fun h H R => ?_)
    · unfold F_X4_place
      simp only [o0_ck H, c_isP_no H C.1 hx, Option.bind_some, not_true_eq_false, if_false]
    · unfold F_X5_place
      simp only [o145_ck H, r_isP_no H V.1.1 R.1 hx, Option.bind_some, not_true_eq_false, if_false]
  · have q10 : ¬ (1 : Int32) = 0 := by decide
    have hp8 : p < 8 := by omega
    refine Op.const (if b = 0 then zY σ 1 p else if b = 1 then zY σ 2 p else if b = 2 then tY (zT σ) 3 p else if b = 3 then zY σ 3 p else -3) V (fun h H C => ?_) (fun h H R => ?_)
    · have e1 : hI h (17 + 1) p = zY σ 1 p := (C.2.1.2.1 p hp).1
      have e2 : hI h (17 + 2) p = zY σ 2 p := (C.2.1.2.1 p hp).2
      have e3 : hI h (17 + 3) p = zY σ 3 p := (C.2.1.2.2.1 p hp8).1
      have e4 : hI h (3 + 3) p = tY (zT σ) 3 p := (C.1.2.2.1 p hp).2.2
      unfold F_X4_place
      simp only [o0_ck H, c_isP_yes H V.1.1 C.1 hp, Option.bind_some, q10, not_false_eq_true, if_true, o0_R3 H, o0_R1 H, y_R0 H yo_17, y_R1 H yo_17, y_R2 H yo_17, t_R4 H to_3, y_ld1 H yo_17 hp8, y_ld2 H yo_17 hp8, y_ld3 H yo_17 hp8, t_ld3 H to_3 hp8, e1, e2, e3, e4]
      split
      · rfl
      · split
        · rfl
        · split
          · rfl
          · split <;> rfl
    · have e1 : hI h 148 (2 + p) = zY σ 1 p := (R.2.1.2.1 p hp).1
      have e2 : hI h 148 (10 + p) = zY σ 2 p := (R.2.1.2.1 p hp).2
      have e3 : hI h 148 (18 + p) = zY σ 3 p := (R.2.1.2.2.1 p hp8).1
      have e4 : hI h 146 (17 + p) = tY (zT σ) 3 p := (R.1.2.2.1 p hp).2.2
      unfold F_X5_place
      simp only [o145_ck H, r_isP_yes H V.1.1 R.1 hp, Option.bind_some, q10, not_false_eq_true, if_true, o145_R2 H, o145_R0 H, al_2, al_10, al_17, al_18, o148_ld H (show 2 + p < 52 by omega), o148_ld H (show 10 + p < 52 by omega), o148_ld H (show 18 + p < 52 by omega), o146_ld H (show 17 + p < 50 by omega), e1, e2, e3, e4]
      split
      · rfl
      · split
        · rfl
        · split
          · rfl
          · split <;> rfl
theorem op_hen {σ : SG} (V : VI σ) (a b : Int32) : Op (fun h => Option.bind (F_X4_hen h 0 a b) fun v => some (v, h)) (fun h => Option.bind (F_X5_hen h 145 a b) fun v => some (v, h)) σ := by
  have v2 := V.1.1.2
  rcases ixs a (n := tH (zT σ)) (by omega) with hx | ⟨k, hk, rfl⟩
  · refine Op.const (-2) V (fun h H C => ?_) (fun h H R => ?_)
    · unfold F_X4_hen
      simp only [o0_ck H, c_isH_no H C.1 hx, Option.bind_some, not_true_eq_false, if_false]
    · unfold F_X5_hen
      simp only [o145_ck H, r_isH_no H V.1.1 R.1 hx, Option.bind_some, not_true_eq_false, if_false]
  · have q10 : ¬ (1 : Int32) = 0 := by decide
    have hk5 : k < 5 := by omega
    obtain ⟨w5, w6⟩ := V.2.1.2.2.2.1 k hk
    refine Op.const (if b = 0 then zY σ 5 k else if b = 1 then zY σ 6 k else if b = 2 then zY σ 7 k else if b = 3 then zY σ 8 k else if b = 4 then zY σ 9 k else -3) V (fun h H C => ?_) (fun h H R => ?_)
    · have e5 : hI h (17 + 5) k = zY σ 5 k := (C.2.1.2.2.2.1 k hk).1
      have e6 : hI h (17 + 6) k = zY σ 6 k := (C.2.1.2.2.2.1 k hk).2
      have e7 : hI h (17 + 7) k = zY σ 7 k := (C.2.1.2.2.2.2 k hk5).1
      have e8 : hI h (17 + 8) k = zY σ 8 k := (C.2.1.2.2.2.2 k hk5).2.1
      have e9 : hI h (17 + 9) k = zY σ 9 k := (C.2.1.2.2.2.2 k hk5).2.2
      unfold F_X4_hen
      simp only [o0_ck H, c_isH_yes H V.1.1 C.1 hk, Option.bind_some, q10, not_false_eq_true, if_true, o0_R3 H, y_R4 H yo_17, y_R5 H yo_17, y_R6 H yo_17, y_R7 H yo_17, y_R8 H yo_17, y_ld5 H yo_17 hk5, y_ld6 H yo_17 hk5, y_ld7 H yo_17 hk5, y_ld8 H yo_17 hk5, y_ld9 H yo_17 hk5, e5, e6, e7, e8, e9]
      split
      · rfl
      · split
        · rfl
        · split
          · rfl
          · split
            · rfl
            · split <;> rfl
    · have e5 : hI h 146 (26 + k) = zY σ 5 k := by rw [w5]; exact (R.1.2.2.2.1 k hk).1
      have e6 : hI h 146 (31 + k) = zY σ 6 k := by rw [w6]; exact (R.1.2.2.2.1 k hk).2
      have e7 : hI h 148 (34 + k) = zY σ 7 k := (R.2.1.2.2.2 k hk5).1
      have e8 : hI h 148 (39 + k) = zY σ 8 k := (R.2.1.2.2.2 k hk5).2.1
      have e9 : hI h 148 (44 + k) = zY σ 9 k := (R.2.1.2.2.2 k hk5).2.2
      unfold F_X5_hen
      simp only [o145_ck H, r_isH_yes H V.1.1 R.1 hk, Option.bind_some, q10, not_false_eq_true, if_true, o145_R2 H, o145_R0 H, al_26, al_31, al_34, al_39, al_44, o146_ld H (show 26 + k < 50 by omega), o146_ld H (show 31 + k < 50 by omega), o148_ld H (show 34 + k < 52 by omega), o148_ld H (show 39 + k < 52 by omega), o148_ld H (show 44 + k < 52 by omega), e5, e6, e7, e8, e9]
      split
      · rfl
      · split
        · rfl
        · split
          · rfl
          · split
            · rfl
            · split <;> rfl
theorem op_news {σ : SG} (V : VI σ) (a : Int32) : Op (fun h => Option.bind (F_X4_news h 0 a) fun v => some (v, h)) (fun h => Option.bind (F_X5_news h 145 a) fun v => some (v, h)) σ := by
  have q10 : ¬ (1 : Int32) = 0 := by decide
  have e13 : ∀ x : Int32, (0 ≤ x ∧ x ≤ 13) ↔ (¬ x < 0 ∧ x < 14) := by
    intro x
    simp only [Int32.le_iff_toInt_le, Int32.lt_iff_toInt_lt]
    have : (13 : Int32).toInt = 13 := by decide
    have : (14 : Int32).toInt = 14 := by decide
    have : (0 : Int32).toInt = 0 := by decide
    omega
  rcases ixs a (n := 14) (by omega) with hx | ⟨d, hd, rfl⟩
  · refine Op.const (-3) V (fun h H C => ?_) (fun h H R => ?_)
    · unfold F_X4_news
      by_cases h0 : a < 0
      · simp only [o0_ck H, Option.bind_some, h0, if_true]
      · have h14 : ¬ a < 14 := by
          have := hx.resolve_left h0
          have e : (14 : Int32) ≤ a := this
          rw [Int32.le_iff_toInt_le] at e
          rw [Int32.lt_iff_toInt_lt]
          omega
        simp only [o0_ck H, Option.bind_some, h0, h14, if_false]
    · unfold F_X5_news
      have hn : ¬ ((0 : Int32) ≤ a ∧ a ≤ 13) := by
        rw [e13]
        rintro ⟨z1, z2⟩
        have e : (14 : Int32) ≤ a := hx.resolve_left z1
        rw [Int32.le_iff_toInt_le] at e
        rw [Int32.lt_iff_toInt_lt] at z2
        omega
      simp only [o145_ck H, Option.bind_some, in_ok h a 0 13 0 13 (by decide) (by decide), if_neg hn, if_true]
  · refine Op.const (tY (zT σ) 6 d) V (fun h H C => ?_) (fun h H R => ?_)
    · have e6 : hI h (3 + 6) d = tY (zT σ) 6 d := C.1.2.2.2.2 d hd
      have h14 : nI d < 14 := nI_lt (b := 14) hd (by omega)
      unfold F_X4_news
      simp only [o0_ck H, Option.bind_some, if_neg (nI_pos (show d < 2 ^ 31 by omega)), h14, if_true, o0_R1 H, t_R7 H to_3, t_ld6 H to_3 hd, e6]
    · have e6 : hI h 146 (36 + d) = tY (zT σ) 6 d := R.1.2.2.2.2 d hd
      have hc : (0 : Int32) ≤ nI d ∧ nI d ≤ 13 := ⟨nI_pos' (by omega), nI_le (b := 13) (by omega) (by omega)⟩
      unfold F_X5_news
      simp only [o145_ck H, Option.bind_some, in_ok h (nI d) 0 13 0 13 (by decide) (by decide), if_pos hc, q10, if_false, o145_R0 H, al_36, o146_ld H (show 36 + d < 50 by omega), e6]
theorem isUnder_ok (h : AH) (c : Nat) (hc : c ≤ 3) (x : Int32) : F_X4_isUnder h (nI c) x = some (if x = 0 ∨ x = nI c + 1 ∨ (x = 1 ∧ ¬ 3 ≤ nI c) then 1 else 0) := by
  unfold F_X4_isUnder
  by_cases h0 : x = 0
  · subst h0
    simp
  · by_cases h1 : x = 1
    · subst h1
      have : ∀ c, c ≤ 3 → ((if ¬ (1 : Int32) = 0 then if ¬ (1 : Int32) = 1 then if ¬ (1 : Int32) = nI c + 1 then some (0 : Int32) else some 1 else if nI c = 3 then some 0 else some 1 else some 1) = some (if (1 : Int32) = 0 ∨ (1 : Int32) = nI c + 1 ∨ ((1 : Int32) = 1 ∧ ¬ 3 ≤ nI c) then 1 else 0)) := by decide
      exact this c hc
    · by_cases h2 : x = nI c + 1
      · rw [if_pos h0, if_pos h1, if_neg (not_not_intro h2), if_pos (Or.inr (Or.inl h2))]
      · rw [if_pos h0, if_pos h1, if_pos h2, if_neg (by rintro (z | z | z); exact h0 z; exact h2 z; exact h1 z.1)]
theorem op_as {σ : SG} (V : VI σ) (a b : Int32) : Op (fun h => Option.bind (F_X4_as h 0 a b) fun v => some (v, h)) (fun h => F_X5_as h 145 a b) σ := by
  have v1 := V.1.1.1
  have v2 := V.1.1.2
  have q10 : ¬ (1 : Int32) = 0 := by decide
  rcases ixs a (n := tH (zT σ)) (by omega) with hx | ⟨k, hk, rfl⟩
  · refine Op.const (-2) V (fun h H C => ?_) (fun h H R => ?_)
    · unfold F_X4_as
      simp only [o0_ck H, c_isH_no H C.1 hx, Option.bind_some, not_true_eq_false, if_false]
    · unfold F_X5_as
      simp only [o145_ck H, r_isH_no H V.1.1 R.1 hx, Option.bind_some, not_true_eq_false, if_false]
  · have hk5 : k < 5 := by omega
    obtain ⟨w5, w6⟩ := V.2.1.2.2.2.1 k hk
    obtain ⟨⟨c, hc, ec⟩, -⟩ := V.1.2.2.1 k hk
    have cE : ∀ h, CI h σ → hI h (17 + 5) k = nI c := fun h C => by rw [← ec, ← w5]; exact (C.2.1.2.2.2.1 k hk).1
    have rE : ∀ h, RI h σ → hI h 146 (26 + k) = nI c := fun h R => by rw [← ec]; exact (R.1.2.2.2.1 k hk).1
    have eb : ((0 : Int32) ≤ b ∧ b ≤ 4) ↔ (¬ b < 0 ∧ b ≤ 4) := by
      simp only [Int32.le_iff_toInt_le, Int32.lt_iff_toInt_lt]
      omega
    by_cases hb : ¬ b < 0 ∧ b ≤ 4
    · have rq : ∀ v4 : Int32, (if b = 0 then some (1 : Int32) else if b = v4 + 1 then some 1 else if ¬ b = 1 then some 0 else if 3 ≤ v4 then some 0 else some 1) = some (if b = 0 ∨ b = v4 + 1 ∨ (b = 1 ∧ ¬ 3 ≤ v4) then 1 else 0) := by
        intro v4
        by_cases a1 : b = 0
        · simp [a1]
        · by_cases a2 : b = v4 + 1
          · rw [if_neg a1, if_pos a2, if_pos (Or.inr (Or.inl a2))]
          · by_cases a3 : b = 1
            · by_cases a4 : 3 ≤ v4
              · rw [if_neg a1, if_neg a2, if_neg (not_not_intro a3), if_pos a4, if_neg (by rintro (z | z | z); exact a1 z; exact a2 z; exact z.2 a4)]
              · rw [if_neg a1, if_neg a2, if_neg (not_not_intro a3), if_neg a4, if_pos (Or.inr (Or.inr ⟨a3, a4⟩))]
            · rw [if_neg a1, if_neg a2, if_pos a3, if_neg (by rintro (z | z | z); exact a1 z; exact a2 z; exact a3 z.1)]
      by_cases hu : b = 0 ∨ b = nI c + 1 ∨ (b = 1 ∧ ¬ 3 ≤ nI c)
      · by_cases hP : tP (zT σ) = 0
        · refine Op.const (-4) V (fun h H C => ?_) (fun h H R => ?_)
          · have e0 : hI h 3 0 = 0 := by rw [C.1.1, hP]; rfl
            unfold F_X4_as
            simp only [o0_ck H, c_isH_yes H V.1.1 C.1 hk, Option.bind_some, q10, not_false_eq_true, if_true, hb.1, hb.2, if_false, o0_R3 H, o0_R1 H, y_R4 H yo_17, y_ld5 H yo_17 hk5, cE h C, isUnder_ok h c hc, if_pos hu, t_gI H to_3, e0, not_true_eq_false]
          · have e0 : hI h 146 0 = 0 := by rw [R.1.1, hP]; rfl
            unfold F_X5_as
            simp only [o145_ck H, r_isH_yes H V.1.1 R.1 hk, Option.bind_some, q10, not_false_eq_true, if_true, in_ok h b 0 4 0 4 (by decide) (by decide), if_pos (eb.mpr hb), o145_R0 H, al_26, o146_ld H (show 26 + k < 50 by omega), rE h R, rq, if_pos hu, if_false, o146_l0 H, e0, not_true_eq_false]
        · have hPn : ¬ nI (tP (zT σ)) = 0 := nI_ne0 (by omega) (by omega)
          refine Op.fore (lkP (zT σ) (zY σ) k 0 + 9999) V (fun h H C => ⟨h, ?_, Fr.refl _ _ _⟩) (fun h H R => ?_)
          · have el : F_X3_likes h 17 3 (nI k) 0 = some (lkP (zT σ) (zY σ) k 0) := c_likes H yo_17 to_3 V.1.1 C.2.1 C.1 hk (show 0 < tP (zT σ) by omega)
            unfold F_X4_as
            simp only [o0_ck H, c_isH_yes H V.1.1 C.1 hk, Option.bind_some, q10, not_false_eq_true, if_true, hb.1, hb.2, if_false, o0_R3 H, o0_R1 H, y_R4 H yo_17, y_ld5 H yo_17 hk5, cE h C, isUnder_ok h c hc, if_pos hu, t_gI H to_3, C.1.1, hPn, el]
          · obtain ⟨h1, k1, k2, k3⟩ := r_asTold (y := zY σ) H V.1.1 R.1 V.2.1.2.2.2.1
            have H1 := H.fs k2
            have R1 : RY (zT σ) (hI h1 148) (zY σ) := by rw [k2.2.2.2 148 (by decide)]; exact R.2.1
            have el : F_X5_likes h1 145 148 (nI k) 0 = some (lkP (zT σ) (zY σ) k 0) := r_likes H1 ro_148 V.1.1 R1 k3 (R.1.fs k2 (by decide)) hk (show 0 < tP (zT σ) by omega)
            refine ⟨h1, ?_, k2.wide (by decide)⟩
            unfold F_X5_as
            simp only [o145_ck H, r_isH_yes H V.1.1 R.1 hk, Option.bind_some, q10, not_false_eq_true, if_true, in_ok h b 0 4 0 4 (by decide) (by decide), if_pos (eb.mpr hb), o145_R0 H, al_26, o146_ld H (show 26 + k < 50 by omega), rE h R, rq, if_pos hu, if_false, o146_l0 H, R.1.1, hPn, k1, o145_R2 H1, el]
      · refine Op.const (-4) V (fun h H C => ?_) (fun h H R => ?_)
        · unfold F_X4_as
          simp only [o0_ck H, c_isH_yes H V.1.1 C.1 hk, Option.bind_some, q10, not_false_eq_true, if_true, hb.1, hb.2, if_false, o0_R3 H, y_R4 H yo_17, y_ld5 H yo_17 hk5, cE h C, isUnder_ok h c hc, if_neg hu]
        · unfold F_X5_as
          simp only [o145_ck H, r_isH_yes H V.1.1 R.1 hk, Option.bind_some, q10, not_false_eq_true, if_true, in_ok h b 0 4 0 4 (by decide) (by decide), if_pos (eb.mpr hb), o145_R0 H, al_26, o146_ld H (show 26 + k < 50 by omega), rE h R, rq, if_neg hu]
    · refine Op.const (-3) V (fun h H C => ?_) (fun h H R => ?_)
      · unfold F_X4_as
        by_cases h0 : b < 0
        · simp only [o0_ck H, c_isH_yes H V.1.1 C.1 hk, Option.bind_some, q10, not_false_eq_true, if_true, h0]
        · have h4 : ¬ b ≤ 4 := fun z => hb ⟨h0, z⟩
          simp only [o0_ck H, c_isH_yes H V.1.1 C.1 hk, Option.bind_some, q10, not_false_eq_true, if_true, h0, h4, if_false]
      · unfold F_X5_as
        simp only [o145_ck H, r_isH_yes H V.1.1 R.1 hk, Option.bind_some, q10, not_false_eq_true, if_true, in_ok h b 0 4 0 4 (by decide) (by decide), if_neg (fun z => hb (eb.mp z)), not_true_eq_false, if_false]
