/-! day, thunder, straw, move, eat, heed -/
theorem rem_T (σ : SG) : zT (remS σ) = zT σ := rfl
theorem rem_Y (σ : SG) : zY (remS σ) = zY σ := rfl
theorem FrC.trans {h h1 h2 : AH} (a : FrC h h1) (b : FrC h1 h2) : FrC h h2 := ⟨b.1, fun q hq => (b.2 q hq).trans (a.2 q hq)⟩
theorem FrR.trans {h h1 h2 : AH} (a : FrR h h1) (b : FrR h1 h2) : FrR h h2 := ⟨b.1, fun k => (b.2.1 k).trans (a.2.1 k), fun q hq => (b.2.2 q hq).trans (a.2.2 q hq)⟩
/-- an op that remembers and then changes the yard -/
theorem Op.days {FC FR : AH → Option (Int32 × AH)} {σ : SG} (ans : Int32) (y : YT) (V : VI σ) (W : VY (zT σ) y)
    (c : ∀ h h1, Lo h → CI h σ → F_X4_remember h 0 = some h1 → Lo h1 → CI h1 (remS σ) → ∃ h', FC h = some (ans, h') ∧ Fr h1 h' 17 27 ∧ CY (zT σ) (Yc h' 17) y)
    (r : ∀ h h1, Lo h → RI h σ → F_X5_remember h 145 = some h1 → Lo h1 → RI h1 (remS σ) → ∃ h', FR h = some (ans, h') ∧ Fs h1 h' [148, 154, 155, 156, 157] ∧ RY (zT σ) (hI h' 148) y) : Op FC FR σ := by
  refine ⟨ans, wY (remS σ) y, V.rem.now W, fun h H C => ?_, fun h H R => ?_⟩
  · obtain ⟨h1, k1, k2, k3⟩ := c_rem H V C
    obtain ⟨h', l1, l2, l3⟩ := c h h1 H C k1 k3.1 k2
    obtain ⟨m1, m2⟩ := c_setNow k3.1 k2 V.rem l2 l3
    exact ⟨h', l1, m1, k3.trans m2⟩
  · obtain ⟨h1, k1, k2, k3⟩ := r_rem H V R
    obtain ⟨h', l1, l2, l3⟩ := r h h1 H R k1 k3.1 k2
    obtain ⟨m1, m2⟩ := r_setNow k3.1 k2 l2 (fun q hq => hq) l3
    exact ⟨h', l1, m1, k3.trans m2⟩
theorem up2_eq'' {y : YT} {i j a b : Nat} {v : Int32} (h1 : a = i) (h2 : b = j) : up2 y i j v a b = v := if_pos ⟨h1, h2⟩
theorem dy_8 (τ : TT) (y : YT) (k : Nat) : ∀ n, (n ≤ k → dyP τ y n 8 k = y 8 k) ∧ (dyP τ y n 8 k = y 8 k ∨ dyP τ y n 8 k = y 8 k + 1) := by
  intro n
  induction n with
  | zero =>
    have e : dyP τ y 0 8 k = y 8 k := by unfold dyP; rw [upR_ne (by decide), upR_ne (by decide)]
    exact ⟨fun _ => e, Or.inl e⟩
  | succ n ih =>
    have e : dyP τ y (n + 1) = hnP τ (dyP τ y n) n := rfl
    rw [e]
    unfold hnP
    split
    next => exact ⟨fun h => ih.1 (by omega), ih.2⟩
    next =>
      unfold egP
      rw [up2_ne (by omega)]
      by_cases hk : k = n
      · refine ⟨fun h => absurd h (by omega), ?_⟩
        rw [up2_eq'' rfl hk]
        have e1 : dyP τ y n 8 n = y 8 k := by rw [hk] at ih ⊢; exact ih.1 (Nat.le_refl _)
        rw [e1]
        split
        · exact Or.inr rfl
        · exact Or.inl (Int32.add_zero _)
      · rw [up2_ne (by omega), up2_ne (by omega), up2_ne (by omega), up2_ne (by omega)]
        exact ⟨fun h => ih.1 (by omega), ih.2⟩
theorem day_8 (τ : TT) (y : YT) (k : Nat) : dayP τ y 8 k = y 8 k ∨ dayP τ y 8 k = y 8 k + 1 := by
  unfold dayP
  rw [up2_ne (by omega), up2_ne (by omega)]
  exact (dy_8 τ y k (tH τ)).2
theorem VY.up {τ : TT} {y : YT} (W : VY τ y) {i j : Nat} (v : Int32) (h : i = 3 ∨ (i = 0 ∧ 11 ≤ j)) : VY τ (up2 y i j v) := by
  obtain ⟨⟨d, hd, w1⟩, w2, w3, w4, w5⟩ := W
  have e : ∀ a b, ¬ (a = i ∧ b = j) → up2 y i j v a b = y a b := fun a b h => up2_ne h
  refine ⟨⟨d, hd, by rw [e 0 9 (by omega)]; exact w1⟩, by rw [e 0 10 (by omega)]; exact w2, fun p hp => ?_, fun k hk => ?_, fun k hk => ?_⟩
  · rw [e 1 p (by omega), e 2 p (by omega)]; exact w3 p hp
  · rw [e 5 k (by omega), e 6 k (by omega)]; exact w4 k hk
  · rw [e 0 9 (by omega), e 8 k (by omega)]; exact w5 k hk
theorem VY.day {τ : TT} {y : YT} (W : VY τ y) {d : Nat} (hd : d < 999) (ed : y 0 9 = nI d) : VY τ (dayP τ y) := by
  obtain ⟨-, w2, w3, w4, w5⟩ := W
  refine ⟨⟨d + 1, by omega, by rw [day_9, ed, nI_1]⟩, Or.inl (day_10 τ y), ?_, ?_, fun k hk => ?_⟩
  · rw [day_row τ y 1 (by omega), day_row τ y 2 (by omega)]; exact w3
  · rw [day_row τ y 5 (by omega), day_row τ y 6 (by omega)]; exact w4
  · obtain ⟨r, hr, er⟩ := w5 k hk
    rw [ed, nI_clamp (by omega)] at hr
    rw [day_9, ed, nI_1, nI_clamp (by omega)]
    rcases day_8 τ y k with e | e
    · exact ⟨r, by omega, by rw [e, er]⟩
    · exact ⟨r + 1, by omega, by rw [e, er, nI_1]⟩
section DAYS
variable {σ : SG}
theorem op_day (V : VI σ) : Op (fun h => F_X4_day h 0) (fun h => F_X5_day h 145) σ := by
  obtain ⟨d, hd, ed⟩ := V.2.1.1
  obtain ⟨d', hd', gd⟩ := Gd.of V.1 V.2.1
  have cE : ∀ h, CI h σ → hI h 17 9 = nI d := fun h C => (C.2.1.1 9 (by omega) (by omega)).trans ed
  have rE : ∀ h, RI h σ → hI h 148 0 = nI d := fun h R => R.2.1.1.1.trans ed
  by_cases h9 : d = 999
  · subst h9
    refine Op.const (-5) V (fun h H C => ?_) (fun h H R => ?_)
    · have e : ¬ nI 999 < 999 := by decide
      unfold F_X4_day
      simp only [o0_ck H, o0_R3 H, y_gI H yo_17, cE h C, Option.bind_some, if_neg e]
    · have e : ¬ ¬ nI 999 = 999 := by decide
      unfold F_X5_day
      simp only [o145_ck H, o145_R2 H, r_ld0 H ro_148, rE h R, Option.bind_some, if_neg e]
  · have hlt : d < 999 := by omega
    refine Op.days (ebP (dayP (zT σ) (zY σ)) 8) (dayP (zT σ) (zY σ)) V (V.2.1.day hlt ed) (fun h h1 H C k1 H1 C1 => ?_) (fun h h1 H R k1 H1 R1 => ?_)
    · have e : nI d < 999 := nI_lt (b := 999) hlt (by omega)
      obtain ⟨h2, l1, l2, l3⟩ := c_pass H1 yo_17 to_3 V.1.1 C1.2.1 C1.1 (d := d) (by omega) ed
      have H2 := H1.fr l2
      refine ⟨h2, ?_, l2, l3⟩
      unfold F_X4_day
      simp only [o0_ck H, o0_R3 H, y_gI H yo_17, cE h C, Option.bind_some, if_pos e, k1, o0_R3 H1, o0_R1 H1]
      have l1' : F_X3_passDay h1 17 3 = some h2 := l1
      simp only [l1', Option.bind_some, o0_R3 H2]
      rw [c_eb H2 yo_17 l3, Option.bind_some]
      rfl
    · have e : ¬ nI d = 999 := fun z => by
        have := (nI_eq (a := d) (b := 999) (by omega) (by omega)).mp z
        omega
      obtain ⟨h2, l1, l2, l3⟩ := r_asTold (y := zY σ) H1 V.1.1 R1.1 V.2.1.2.2.2.1
      have H2 := H1.fs l2
      have R2 : RY (zT σ) (hI h2 148) (zY σ) := by rw [l2.2.2.2 148 (by decide)]; exact R1.2.1
      obtain ⟨h3, m1, m2, m3, m4⟩ := r_goes H2 ro_148 V.1.1 (gd.vl (by omega)) gd.2.2.2 R2 l3 (R1.1.fs l2 (by decide))
      refine ⟨h3, ?_, (l2.wide (by decide)).trans (m2.wide (by decide)), m3⟩
      unfold F_X5_day
      simp only [o145_ck H, o145_R2 H, r_ld0 H ro_148, rE h R, Option.bind_some, if_pos e, k1, l1, o145_R2 H2, m1]
theorem up2_eq' {y : YT} {i j a b : Nat} {v : Int32} (h1 : a = i) (h2 : b = j) : up2 y i j v a b = v := if_pos ⟨h1, h2⟩
theorem op_thunder (V : VI σ) : Op (fun h => F_X4_thunder h 0) (fun h => F_X5_thunder h 145) σ := by
  have hth := V.2.1.2.1
  have W : VY (zT σ) (up2 (zY σ) 0 10 1) := by
    obtain ⟨⟨d, hd, w1⟩, w2, w3, w4, w5⟩ := V.2.1
    refine ⟨⟨d, hd, by rw [up2_ne (by omega)]; exact w1⟩, Or.inr up2_eq, fun p hp => ?_, fun k hk => ?_, fun k hk => ?_⟩
    · rw [up2_ne (by omega), up2_ne (by omega)]; exact w3 p hp
    · rw [up2_ne (by omega), up2_ne (by omega)]; exact w4 k hk
    · rw [up2_ne (by omega), up2_ne (by omega)]; exact w5 k hk
  refine Op.days (zY σ 0 10) (up2 (zY σ) 0 10 1) V W (fun h h1 H C k1 H1 C1 => ?_) (fun h h1 H R k1 H1 R1 => ?_)
  · have e10 : hI h1 17 10 = zY σ 0 10 := C1.2.1.1 10 (by omega) (by omega)
    have ez : (if zY σ 0 10 = 0 then some (0 : Int32) else some 1) = some (zY σ 0 10) := by
      rcases hth with e | e
      · rw [e]; rfl
      · rw [e]; rfl
    refine ⟨sI h1 17 10 1, ?_, (Fr.refl h1 _ _).sA (by omega) (by omega), ?_⟩
    · unfold F_X4_thunder
      simp only [o0_ck H, Option.bind_some, k1, o0_R3 H1, y_gI H1 yo_17, e10, ez, y_pZ H1 yo_17 (Or.inr rfl)]
    · rw [Yc_sI0]
      exact C1.2.1.up 0 10 1 (by decide) (by decide)
  · have e1 : hI h1 148 1 = zY σ 0 10 := R1.2.1.1.2.1
    refine ⟨sI h1 148 1 1, ?_, (Fs.refl h1 _).sA (by decide), ?_⟩
    · unfold F_X5_thunder
      simp only [o145_ck H, Option.bind_some, k1, o145_R2 H1, r_ld1 H1 ro_148, e1, r_st1 H1 ro_148]
    · rw [hI_sA, if_pos rfl]
      exact R1.2.1.up V.1.1 (i := 0) (j := 10) (by unfold rgR; omega) 1
theorem op_straw (V : VI σ) (a b : Int32) : Op (fun h => F_X4_straw h 0 a b) (fun h => F_X5_straw h 145 a b) σ := by
  have v1 := V.1.1.1
  have q10 : ¬ (1 : Int32) = 0 := by decide
  rcases ixs a (n := tP (zT σ)) (by omega) with hx | ⟨p, hp, rfl⟩
  · refine Op.const (-2) V (fun h H C => ?_) (fun h H R => ?_)
    · unfold F_X4_straw
      simp only [o0_ck H, c_isP_no H C.1 hx, Option.bind_some, not_true_eq_false, if_false]
    · unfold F_X5_straw
      simp only [o145_ck H, r_isP_no H V.1.1 R.1 hx, Option.bind_some, not_true_eq_false, if_false]
  · have hp8 : p < 8 := by omega
    have eb : ((0 : Int32) ≤ b ∧ b ≤ 9) ↔ (¬ b < 0 ∧ b ≤ 9) := by
      simp only [Int32.le_iff_toInt_le, Int32.lt_iff_toInt_lt]
      omega
    by_cases hb : ¬ b < 0 ∧ b ≤ 9
    · obtain ⟨w, hw, ew⟩ := nI_of2 (M := 9) (n := 9) (by decide) hb.1 hb.2
      have W : VY (zT σ) (up2 (zY σ) 2 p b) := by
        obtain ⟨⟨d, hd, w1⟩, w2, w3, w4, w5⟩ := V.2.1
        refine ⟨⟨d, hd, by rw [up2_ne (by omega)]; exact w1⟩, by rw [up2_ne (by omega)]; exact w2, fun q hq => ?_, fun k hk => ?_, fun k hk => by rw [up2_ne (by omega), up2_ne (by omega)]; exact w5 k hk⟩
        · rw [up2_ne (by omega)]
          refine ⟨(w3 q hq).1, ?_⟩
          by_cases hqp : q = p
          · exact ⟨w, hw, by rw [up2_eq' rfl hqp, ew]⟩
          · rw [up2_ne (by omega)]; exact (w3 q hq).2
        · rw [up2_ne (by omega), up2_ne (by omega)]; exact w4 k hk
      refine Op.days (zY σ 2 p) (up2 (zY σ) 2 p b) V W (fun h h1 H C k1 H1 C1 => ?_) (fun h h1 H R k1 H1 R1 => ?_)
      · have e2 : hI h1 (17 + 2) p = zY σ 2 p := (C1.2.1.2.1 p hp).2
        refine ⟨sI h1 (17 + 2) p b, ?_, (Fr.refl h1 _ _).sA (by omega) (by omega), ?_⟩
        · unfold F_X4_straw
          simp only [o0_ck H, c_isP_yes H V.1.1 C.1 hp, Option.bind_some, q10, not_false_eq_true, if_true, hb.1, hb.2, if_false, k1, o0_R3 H1, y_R1 H1 yo_17, y_ld2 H1 yo_17 hp8, e2, y_st2 H1 yo_17 hp8]
        · rw [Yc_sI]
          exact C1.2.1.up 2 p b (by decide) (by decide)
      · have e2 : hI h1 148 (10 + p) = zY σ 2 p := (R1.2.1.2.1 p hp).2
        refine ⟨sI h1 148 (10 + p) b, ?_, (Fs.refl h1 _).sA (by decide), ?_⟩
        · unfold F_X5_straw
          simp only [o145_ck H, r_isP_yes H V.1.1 R.1 hp, Option.bind_some, q10, not_false_eq_true, if_true, in_ok h b 0 9 0 9 (by decide) (by decide), if_pos (eb.mpr hb), k1, o145_R2 H1, al_10, o148_ld H1 (show 10 + p < 52 by omega), e2, o148_st H1 (show 10 + p < 52 by omega)]
        · rw [hI_sA, if_pos rfl]
          exact R1.2.1.up V.1.1 (i := 2) (j := p) (by unfold rgR; omega) b
    · refine Op.const (-3) V (fun h H C => ?_) (fun h H R => ?_)
      · unfold F_X4_straw
        by_cases h0 : b < 0
        · simp only [o0_ck H, c_isP_yes H V.1.1 C.1 hp, Option.bind_some, q10, not_false_eq_true, if_true, h0]
        · have h4 : ¬ b ≤ 9 := fun z => hb ⟨h0, z⟩
          simp only [o0_ck H, c_isP_yes H V.1.1 C.1 hp, Option.bind_some, q10, not_false_eq_true, if_true, h0, h4, if_false]
      · unfold F_X5_straw
        simp only [o145_ck H, r_isP_yes H V.1.1 R.1 hp, Option.bind_some, q10, not_false_eq_true, if_true, in_ok h b 0 9 0 9 (by decide) (by decide), if_neg (fun z => hb (eb.mp z)), not_true_eq_false, if_false]
/-- two places exchange meanings -/
def mvP (y : YT) (p q : Nat) : YT := up2 (up2 y 1 p (y 1 q)) 1 q (y 1 p)
theorem r_moves {h : AH} {a : Nat} {τ : TT} {y : YT} (H : Lo h) (ha : RO a) (V : VT τ) (R : RY τ (hI h a) y) {p q : Nat} (hp : p < tP τ) (hq : q < tP τ) : ∃ h', F_X5_moves h a (nI p) (nI q) = some h' ∧ Fs h h' [a] ∧ RY τ (hI h' a) (mvP y p q) := by
  have v1 := V.1
  have e1 : hI h a (2 + p) = y 1 p := (R.2.1 p hp).1
  have e2 : hI h a (2 + q) = y 1 q := (R.2.1 q hq).1
  refine ⟨sI (sI h a (2 + p) (y 1 q)) a (2 + q) (y 1 p), ?_, ((Fs.refl h _).sA (by simp)).sA (by simp), ?_⟩
  · unfold F_X5_moves
    simp only [al_2, r_ld H ha (show 2 + p < 52 by omega), r_ld H ha (show 2 + q < 52 by omega), Option.bind_some, e1, e2, r_st H ha (show 2 + p < 52 by omega)]
    rw [r_st (H.sA _ _) ha (by omega), Option.bind_some]
  · rw [hI_sA, if_pos rfl, hI_sA, if_pos rfl]
    exact (R.up V (i := 1) (j := p) (by unfold rgR; omega) (y 1 q)).up V (i := 1) (j := q) (by unfold rgR; omega) (y 1 p)
theorem VY.mv {τ : TT} {y : YT} (W : VY τ y) {p q : Nat} (hp : p < tP τ) (hq : q < tP τ) : VY τ (mvP y p q) := by
  obtain ⟨⟨d, hd, w1⟩, w2, w3, w4, w5⟩ := W
  unfold mvP
  refine ⟨⟨d, hd, by rw [up2_ne (by omega), up2_ne (by omega)]; exact w1⟩, by rw [up2_ne (by omega), up2_ne (by omega)]; exact w2, fun r hr => ?_, fun k hk => ?_, fun k hk => by rw [up2_ne (by omega), up2_ne (by omega), up2_ne (by omega), up2_ne (by omega)]; exact w5 k hk⟩
  · refine ⟨?_, by rw [up2_ne (by omega), up2_ne (by omega)]; exact (w3 r hr).2⟩
    by_cases h1 : r = q
    · rw [up2_eq' rfl h1]; exact (w3 p hp).1
    · rw [up2_ne (by omega)]
      by_cases h2 : r = p
      · rw [up2_eq' rfl h2]; exact (w3 q hq).1
      · rw [up2_ne (by omega)]; exact (w3 r hr).1
  · rw [up2_ne (by omega), up2_ne (by omega), up2_ne (by omega), up2_ne (by omega)]; exact w4 k hk
theorem op_move (V : VI σ) (a b : Int32) : Op (fun h => F_X4_move h 0 a b) (fun h => F_X5_move h 145 a b) σ := by
  have v1 := V.1.1.1
  have q10 : ¬ (1 : Int32) = 0 := by decide
  rcases ixs a (n := tP (zT σ)) (by omega) with hx | ⟨p, hp, rfl⟩
  · refine Op.const (-2) V (fun h H C => ?_) (fun h H R => ?_)
    · unfold F_X4_move
      simp only [o0_ck H, c_isP_no H C.1 hx, Option.bind_some, if_true]
    · unfold F_X5_move
      simp only [o145_ck H, r_isP_no H V.1.1 R.1 hx, Option.bind_some, if_true]
  · rcases ixs b (n := tP (zT σ)) (by omega) with hx | ⟨q, hq, rfl⟩
    · refine Op.const (-2) V (fun h H C => ?_) (fun h H R => ?_)
      · unfold F_X4_move
        simp only [o0_ck H, c_isP_yes H V.1.1 C.1 hp, c_isP_no H C.1 hx, Option.bind_some, q10, if_true, if_false]
      · unfold F_X5_move
        simp only [o145_ck H, r_isP_yes H V.1.1 R.1 hp, r_isP_no H V.1.1 R.1 hx, Option.bind_some, q10, if_true, if_false]
    · by_cases hpq : p = q
      · subst hpq
        refine Op.const (-2) V (fun h H C => ?_) (fun h H R => ?_)
        · unfold F_X4_move
          simp only [o0_ck H, c_isP_yes H V.1.1 C.1 hp, Option.bind_some, q10, if_false, not_true_eq_false]
        · unfold F_X5_move
          simp only [o145_ck H, r_isP_yes H V.1.1 R.1 hp, Option.bind_some, q10, if_false, not_true_eq_false]
      · have hne : ¬ nI p = nI q := fun z => hpq ((nI_eq (by omega) (by omega)).mp z)
        have hp8 : p < 8 := by omega
        have hq8 : q < 8 := by omega
        refine Op.days (zY σ 1 q) (mvP (zY σ) p q) V (V.2.1.mv hp hq) (fun h h1 H C k1 H1 C1 => ?_) (fun h h1 H R k1 H1 R1 => ?_)
        · have e1 : hI h1 (17 + 1) p = zY σ 1 p := (C1.2.1.2.1 p hp).1
          have e2 : hI h1 (17 + 1) q = zY σ 1 q := (C1.2.1.2.1 q hq).1
          have C2 : CY (zT σ) (Yc (sI (sI h1 (17 + 1) p (zY σ 1 q)) (17 + 1) q (zY σ 1 p)) 17) (mvP (zY σ) p q) := by
            rw [Yc_sI, Yc_sI]
            exact (C1.2.1.up 1 p _ (by decide) (by decide)).up 1 q _ (by decide) (by decide)
          have e3 : hI (sI (sI h1 (17 + 1) p (zY σ 1 q)) (17 + 1) q (zY σ 1 p)) (17 + 1) p = zY σ 1 q := by
            have := (C2.2.1 p hp).1
            have e : mvP (zY σ) p q 1 p = zY σ 1 q := by unfold mvP; rw [up2_ne (by omega), up2_eq]
            rw [e] at this
            exact this
          refine ⟨sI (sI h1 (17 + 1) p (zY σ 1 q)) (17 + 1) q (zY σ 1 p), ?_, ((Fr.refl h1 _ _).sA (by omega) (by omega)).sA (by omega) (by omega), C2⟩
          unfold F_X4_move
          simp only [o0_ck H, c_isP_yes H V.1.1 C.1 hp, c_isP_yes H V.1.1 C.1 hq, Option.bind_some, q10, if_false, hne, not_false_eq_true, if_true, k1, o0_R3 H1, y_R0 H1 yo_17, y_ld1 H1 yo_17 hp8, y_ld1 H1 yo_17 hq8, e1, e2, y_st1 H1 yo_17 hp8]
          have H2 : Lo (sI h1 (17 + 1) p (zY σ 1 q)) := H1.sA _ _
          have H3 : Lo (sI (sI h1 (17 + 1) p (zY σ 1 q)) (17 + 1) q (zY σ 1 p)) := H2.sA _ _
          simp only [o0_R3 H2, y_R0 H2 yo_17, y_st1 H2 yo_17 hq8, Option.bind_some, o0_R3 H3, y_R0 H3 yo_17, y_ld1 H3 yo_17 hp8, e3]
        · obtain ⟨h2, l1, l2, l3⟩ := r_moves H1 ro_148 V.1.1 R1.2.1 hp hq
          have H2 := H1.fs l2
          have e3 : hI h2 148 (2 + p) = zY σ 1 q := by
            have := (l3.2.1 p hp).1
            have e : mvP (zY σ) p q 1 p = zY σ 1 q := by unfold mvP; rw [up2_ne (by omega), up2_eq]
            rw [this]
            exact e
          refine ⟨h2, ?_, l2.wide (by decide), l3⟩
          unfold F_X5_move
          simp only [o145_ck H, r_isP_yes H V.1.1 R.1 hp, r_isP_yes H V.1.1 R.1 hq, Option.bind_some, q10, if_false, hne, not_false_eq_true, if_true, k1, o145_R2 H1, l1, o145_R2 H2, al_2, o148_ld H2 (show 2 + p < 52 by omega), e3]
theorem op_eat (V : VI σ) (a : Int32) : Op (fun h => F_X4_eat h 0 a) (fun h => F_X5_eat h 145 a) σ := by
  have v1 := V.1.1.1
  have q10 : ¬ (1 : Int32) = 0 := by decide
  rcases ixs a (n := tP (zT σ)) (by omega) with hx | ⟨p, hp, rfl⟩
  · refine Op.const (-2) V (fun h H C => ?_) (fun h H R => ?_)
    · unfold F_X4_eat
      simp only [o0_ck H, c_isP_no H C.1 hx, Option.bind_some, not_true_eq_false, if_false]
    · unfold F_X5_eat
      simp only [o145_ck H, r_isP_no H V.1.1 R.1 hx, Option.bind_some, not_true_eq_false, if_false]
  · have hp8 : p < 8 := by omega
    have cE : ∀ h, CI h σ → hI h (17 + 3) p = zY σ 3 p := fun h C => (C.2.1.2.2.1 p hp8).1
    have rE : ∀ h, RI h σ → hI h 148 (18 + p) = zY σ 3 p := fun h R => (R.2.1.2.2.1 p hp8).1
    by_cases he : zY σ 3 p = -1
    · refine Op.const (-4) V (fun h H C => ?_) (fun h H R => ?_)
      · unfold F_X4_eat
        simp only [o0_ck H, c_isP_yes H V.1.1 C.1 hp, Option.bind_some, q10, not_false_eq_true, if_true, o0_R3 H, y_R2 H yo_17, y_ld3 H yo_17 hp8, cE h C, he, not_true_eq_false, if_false]
      · unfold F_X5_eat
        simp only [o145_ck H, r_isP_yes H V.1.1 R.1 hp, Option.bind_some, q10, not_false_eq_true, if_true, o145_R2 H, al_18, o148_ld H (show 18 + p < 52 by omega), rE h R, he, not_true_eq_false, if_false]
    · refine Op.days (zY σ 0 11 + 1) (up2 (up2 (zY σ) 3 p (-1)) 0 11 (zY σ 0 11 + 1)) V ((V.2.1.up _ (Or.inl rfl)).up _ (Or.inr ⟨rfl, by omega⟩)) (fun h h1 H C k1 H1 C1 => ?_) (fun h h1 H R k1 H1 R1 => ?_)
      · have H2 : Lo (sI h1 (17 + 3) p (-1)) := H1.sA _ _
        have C2 : CY (zT σ) (Yc (sI (sI h1 (17 + 3) p (-1)) 17 11 (zY σ 0 11 + 1)) 17) (up2 (up2 (zY σ) 3 p (-1)) 0 11 (zY σ 0 11 + 1)) := by
          rw [Yc_sI0, Yc_sI]
          exact (C1.2.1.gone p).up 0 11 _ (by decide) (by decide)
        have e1 : hI (sI h1 (17 + 3) p (-1)) 17 11 = zY σ 0 11 := by
          rw [hI_sA, if_neg (by decide)]
          exact C1.2.1.1 11 (by omega) (by omega)
        have H3 : Lo (sI (sI h1 (17 + 3) p (-1)) 17 11 (zY σ 0 11 + 1)) := H2.sA _ _
        have e2 : hI (sI (sI h1 (17 + 3) p (-1)) 17 11 (zY σ 0 11 + 1)) 17 11 = zY σ 0 11 + 1 := by
          rw [hI_sA, if_pos rfl]
          unfold upd
          rw [if_pos rfl]
        refine ⟨_, ?_, ((Fr.refl h1 _ _).sA (by omega) (by omega)).sA (by omega) (by omega), C2⟩
        unfold F_X4_eat
        simp only [o0_ck H, c_isP_yes H V.1.1 C.1 hp, Option.bind_some, q10, not_false_eq_true, if_true, o0_R3 H, y_R2 H yo_17, y_ld3 H yo_17 hp8, cE h C, he, k1, o0_R3 H1, y_R2 H1 yo_17, y_st3 H1 yo_17 hp8]
        simp only [o0_R3 H2, y_gI H2 yo_17, Option.bind_some, e1, y_pI H2 yo_17, o0_R3 H3, y_gI H3 yo_17, e2]
      · have H2 : Lo (sI h1 148 (18 + p) (-1)) := H1.sA _ _
        have e1 : hI (sI h1 148 (18 + p) (-1)) 148 49 = zY σ 0 11 := by
          rw [hI_sA, if_pos rfl]
          unfold upd
          rw [if_neg (by omega)]
          exact R1.2.1.1.2.2.1
        have H3 : Lo (sI (sI h1 148 (18 + p) (-1)) 148 49 (zY σ 0 11 + 1)) := H2.sA _ _
        have e2 : hI (sI (sI h1 148 (18 + p) (-1)) 148 49 (zY σ 0 11 + 1)) 148 49 = zY σ 0 11 + 1 := by
          rw [hI_sA, if_pos rfl]
          unfold upd
          rw [if_pos rfl]
        have l49 : ∀ h : AH, Lo h → ldA h 148 10 49 = some (hI h 148 49) := fun h H => o148_ld (k := 49) H (by decide)
        have s49 : ∀ (h : AH) (v : Int32), Lo h → stA h 148 10 49 v = some (sI h 148 49 v) := fun h v H => o148_st (k := 49) H (by decide)
        refine ⟨sI (sI h1 148 (18 + p) (-1)) 148 49 (zY σ 0 11 + 1), ?_, ((Fs.refl h1 _).sA (by decide)).sA (by decide), ?_⟩
        · unfold F_X5_eat
          simp only [o145_ck H, r_isP_yes H V.1.1 R.1 hp, Option.bind_some, q10, not_false_eq_true, if_true, o145_R2 H, al_18, o148_ld H (show 18 + p < 52 by omega), rE h R, he, k1, o145_R2 H1, o148_st H1 (show 18 + p < 52 by omega)]
          simp only [o145_R2 H2, l49 _ H2, Option.bind_some, e1, s49 _ _ H2, o145_R2 H3, l49 _ H3, e2]
        · rw [hI_sA, if_pos rfl, hI_sA, if_pos rfl]
          exact (R1.2.1.up V.1.1 (i := 3) (j := p) (by unfold rgR; omega) (-1)).up V.1.1 (i := 0) (j := 11) (by unfold rgR; omega) (zY σ 0 11 + 1)
theorem op_heed (V : VI σ) (a : Int32) : Op (fun h => F_X4_heed h 0 a) (fun h => F_X5_heed h 145 a) σ := by
  have v1 := V.1.1.1
  have q10 : ¬ (1 : Int32) = 0 := by decide
  rcases ixs a (n := tP (zT σ)) (by omega) with hx | ⟨p, hp, rfl⟩
  · refine Op.const (-2) V (fun h H C => ?_) (fun h H R => ?_)
    · unfold F_X4_heed
      simp only [o0_ck H, c_isP_no H C.1 hx, Option.bind_some, not_true_eq_false, if_false]
    · unfold F_X5_heed
      simp only [o145_ck H, r_isP_no H V.1.1 R.1 hx, Option.bind_some, not_true_eq_false, if_false]
  · have hp8 : p < 8 := by omega
    have cE : ∀ h, CI h σ → hI h (17 + 3) p = zY σ 3 p := fun h C => (C.2.1.2.2.1 p hp8).1
    have rE : ∀ h, RI h σ → hI h 148 (18 + p) = zY σ 3 p := fun h R => (R.2.1.2.2.1 p hp8).1
    by_cases he : zY σ 3 p = -1
    · refine Op.const (-4) V (fun h H C => ?_) (fun h H R => ?_)
      · unfold F_X4_heed
        simp only [o0_ck H, c_isP_yes H V.1.1 C.1 hp, Option.bind_some, q10, not_false_eq_true, if_true, o0_R3 H, y_R2 H yo_17, y_ld3 H yo_17 hp8, cE h C, he, not_true_eq_false, if_false]
      · unfold F_X5_heed
        simp only [o145_ck H, r_isP_yes H V.1.1 R.1 hp, Option.bind_some, q10, not_false_eq_true, if_true, o145_R2 H, al_18, o148_ld H (show 18 + p < 52 by omega), rE h R, he, not_true_eq_false, if_false]
    · generalize hw : (if zY σ 4 p = 1 then (2 : Int32) else -1) = w
      refine Op.days (zY σ 0 13 + w + 9999) (up2 (up2 (up2 (zY σ) 3 p (-1)) 0 12 (zY σ 0 12 + 1)) 0 13 (zY σ 0 13 + w)) V (((V.2.1.up _ (Or.inl rfl)).up _ (Or.inr ⟨rfl, by omega⟩)).up _ (Or.inr ⟨rfl, by omega⟩)) (fun h h1 H C k1 H1 C1 => ?_) (fun h h1 H R k1 H1 R1 => ?_)
      · have H2 : Lo (sI h1 (17 + 3) p (-1)) := H1.sA _ _
        have e1 : hI (sI h1 (17 + 3) p (-1)) 17 12 = zY σ 0 12 := by
          rw [hI_sA, if_neg (by decide)]
          exact C1.2.1.1 12 (by omega) (by omega)
        have H3 : Lo (sI (sI h1 (17 + 3) p (-1)) 17 12 (zY σ 0 12 + 1)) := H2.sA _ _
        have e2 : hI (sI (sI h1 (17 + 3) p (-1)) 17 12 (zY σ 0 12 + 1)) 17 13 = zY σ 0 13 := by
          rw [hI_sA, if_pos rfl]
          unfold upd
          rw [if_neg (by decide), hI_sA, if_neg (by decide)]
          exact C1.2.1.1 13 (by omega) (by omega)
        have e3 : hI (sI (sI h1 (17 + 3) p (-1)) 17 12 (zY σ 0 12 + 1)) (17 + 4) p = w := by
          rw [hI_sA, if_neg (by decide), hI_sA, if_neg (by decide), ← hw]
          exact (C1.2.1.2.2.1 p hp8).2 he
        have H4 : Lo (sI (sI (sI h1 (17 + 3) p (-1)) 17 12 (zY σ 0 12 + 1)) 17 13 (zY σ 0 13 + w)) := H3.sA _ _
        have e4 : hI (sI (sI (sI h1 (17 + 3) p (-1)) 17 12 (zY σ 0 12 + 1)) 17 13 (zY σ 0 13 + w)) 17 13 = zY σ 0 13 + w := by
          rw [hI_sA, if_pos rfl]
          unfold upd
          rw [if_pos rfl]
        refine ⟨sI (sI (sI h1 (17 + 3) p (-1)) 17 12 (zY σ 0 12 + 1)) 17 13 (zY σ 0 13 + w), ?_, (((Fr.refl h1 _ _).sA (by omega) (by omega)).sA (by omega) (by omega)).sA (by omega) (by omega), ?_⟩
        · unfold F_X4_heed
          simp only [o0_ck H, c_isP_yes H V.1.1 C.1 hp, Option.bind_some, q10, not_false_eq_true, if_true, o0_R3 H, y_R2 H yo_17, y_ld3 H yo_17 hp8, cE h C, he, k1, o0_R3 H1, y_R2 H1 yo_17, y_st3 H1 yo_17 hp8]
          simp only [o0_R3 H2, y_gI H2 yo_17, Option.bind_some, e1, y_pI H2 yo_17, o0_R3 H3, y_gI H3 yo_17, e2, y_R3 H3 yo_17, y_ld4 H3 yo_17 hp8, e3, y_pI H3 yo_17, o0_R3 H4, y_gI H4 yo_17, e4]
        · rw [Yc_sI0, Yc_sI0, Yc_sI]
          exact ((C1.2.1.gone p).up 0 12 _ (by decide) (by decide)).up 0 13 _ (by decide) (by decide)
      · have H2 : Lo (sI h1 148 (18 + p) (-1)) := H1.sA _ _
        have e1 : hI (sI h1 148 (18 + p) (-1)) 148 50 = zY σ 0 12 := by
          rw [hI_sA, if_pos rfl]
          unfold upd
          rw [if_neg (by omega)]
          exact R1.2.1.1.2.2.2.1
        have H3 : Lo (sI (sI h1 148 (18 + p) (-1)) 148 50 (zY σ 0 12 + 1)) := H2.sA _ _
        have e2 : hI (sI (sI h1 148 (18 + p) (-1)) 148 50 (zY σ 0 12 + 1)) 148 51 = zY σ 0 13 := by
          rw [hI_sA, if_pos rfl]
          unfold upd
          rw [if_neg (by decide), hI_sA, if_pos rfl]
          unfold upd
          rw [if_neg (by omega)]
          exact R1.2.1.1.2.2.2.2
        have e3 : hI (sI (sI h1 148 (18 + p) (-1)) 148 50 (zY σ 0 12 + 1)) 148 (26 + p) = zY σ 4 p := by
          rw [hI_sA, if_pos rfl]
          unfold upd
          rw [if_neg (by omega), hI_sA, if_pos rfl]
          unfold upd
          rw [if_neg (by omega)]
          exact (R1.2.1.2.2.1 p hp8).2
        have ew : (if ¬ zY σ 4 p = 1 then some (-1) else some (2 : Int32)) = some w := by
          rw [← hw]
          by_cases h4 : zY σ 4 p = 1
          · rw [if_neg (not_not_intro h4), if_pos h4]
          · rw [if_pos h4, if_neg h4]
        have H4 : Lo (sI (sI (sI h1 148 (18 + p) (-1)) 148 50 (zY σ 0 12 + 1)) 148 51 (zY σ 0 13 + w)) := H3.sA _ _
        have e4 : hI (sI (sI (sI h1 148 (18 + p) (-1)) 148 50 (zY σ 0 12 + 1)) 148 51 (zY σ 0 13 + w)) 148 51 = zY σ 0 13 + w := by
          rw [hI_sA, if_pos rfl]
          unfold upd
          rw [if_pos rfl]
        have l50 : ∀ h : AH, Lo h → ldA h 148 10 50 = some (hI h 148 50) := fun h H => o148_ld (k := 50) H (by decide)
        have s50 : ∀ (h : AH) (v : Int32), Lo h → stA h 148 10 50 v = some (sI h 148 50 v) := fun h v H => o148_st (k := 50) H (by decide)
        have l51 : ∀ h : AH, Lo h → ldA h 148 10 51 = some (hI h 148 51) := fun h H => o148_ld (k := 51) H (by decide)
        have s51 : ∀ (h : AH) (v : Int32), Lo h → stA h 148 10 51 v = some (sI h 148 51 v) := fun h v H => o148_st (k := 51) H (by decide)
        refine ⟨sI (sI (sI h1 148 (18 + p) (-1)) 148 50 (zY σ 0 12 + 1)) 148 51 (zY σ 0 13 + w), ?_, (((Fs.refl h1 _).sA (by decide)).sA (by decide)).sA (by decide), ?_⟩
        · unfold F_X5_heed
          simp only [o145_ck H, r_isP_yes H V.1.1 R.1 hp, Option.bind_some, q10, not_false_eq_true, if_true, o145_R2 H, al_18, o148_ld H (show 18 + p < 52 by omega), rE h R, he, k1, o145_R2 H1, o148_st H1 (show 18 + p < 52 by omega)]
          simp only [o145_R2 H2, l50 _ H2, Option.bind_some, e1, s50 _ _ H2, o145_R2 H3, l51 _ H3, e2, al_26, o148_ld H3 (show 26 + p < 52 by omega), e3, ew, s51 _ _ H3, o145_R2 H4, l51 _ H4, e4]
        · rw [hI_sA, if_pos rfl, hI_sA, if_pos rfl, hI_sA, if_pos rfl]
          exact ((R1.2.1.up V.1.1 (i := 3) (j := p) (by unfold rgR; omega) (-1)).up V.1.1 (i := 0) (j := 12) (by unfold rgR; omega) (zY σ 0 12 + 1)).up V.1.1 (i := 0) (j := 13) (by unfold rgR; omega) (zY σ 0 13 + w)
end DAYS
