/-! warmth -/
/-- the least warm from i on, m tried, by which hen k lays at p -/
def wmP (τ : TT) (y : YT) (k p : Nat) : Nat → Nat → Int32
  | 0, _ => -1
  | m + 1, i => if laP τ (up2 y 2 p (nI i)) k = nI p then nI i else wmP τ y k p m (i + 1)
section WARM
variable {σ : SG}
theorem Gd.warm {τ : TT} {y : YT} {d : Nat} (g : Gd τ y d) (p : Nat) {w : Nat} (hw : w ≤ 9) : Gd τ (up2 y 2 p (nI w)) d := by
  obtain ⟨g1, g2, g3, g4⟩ := g
  refine ⟨fun q hq => ⟨?_, (g1 q hq).2⟩, fun k hk => ?_, ?_, ?_⟩
  · by_cases hqp : q = p
    · exact ⟨w, hw, up2_eq' rfl hqp⟩
    · rw [up2_ne (by omega)]; exact (g1 q hq).1
  · rw [up2_ne (by omega)]; exact g2 k hk
  · rw [up2_ne (by omega)]; exact g3
  · rw [up2_ne (by omega)]; exact g4
theorem c_warm_loop (V : VI σ) {d k p : Nat} (gd : Gd (zT σ) (zY σ) d) (hd : d ≤ 999) (hk : k < tH (zT σ)) (hp : p < tP (zT σ)) : ∀ (m i g : Nat) (h : AH), Lo h → CI h σ → i + m = 10 → m < g → ∃ h', L_X4_warmth_21 0 (nI k) (nI p) (fun h13 _ => some ((-1), h13)) g h (nI i) = some (wmP (zT σ) (zY σ) k p m i, h') ∧ Fr h h' 27 37 := by
  have v1 := V.1.1.1
  have v2 := V.1.1.2
  have hp8 : p < 8 := by omega
  intro m
  induction m with
  | zero =>
    intro i g h H C e hg
    obtain ⟨g, rfl⟩ : ∃ z, g = z + 1 := ⟨g - 1, by omega⟩
    have hi : i = 10 := by omega
    subst hi
    refine ⟨h, ?_, Fr.refl _ _ _⟩
    conv => lhs; unfold L_X4_warmth_21
    rw [if_pos (by decide)]
    rfl
  | succ m ih =>
    intro i g h H C e hg
    obtain ⟨g, rfl⟩ : ∃ z, g = z + 1 := ⟨g - 1, by omega⟩
    have h9 : ¬ (9 : Int32) < nI i := nI_nlt (a := 9) (by omega) (by omega)
    obtain ⟨h1, k1, k2, k3⟩ := c_copy H yo_27 yo_17 (by decide) V.1.1 C.2.1 V.2.1.2.1
    have H1 := H.fr k2
    have F2 : Fr h1 (sI h1 (27 + 2) p (nI i)) 27 37 := (Fr.refl h1 _ _).sA (by omega) (by omega)
    have H2 := H1.fr F2
    have C2 : CY (zT σ) (Yc (sI h1 (27 + 2) p (nI i)) 27) (up2 (zY σ) 2 p (nI i)) := by
      rw [Yc_sI]
      exact k3.up 2 p _ (by decide) (by decide)
    have T2 : CT (sI h1 (27 + 2) p (nI i)) 3 (zT σ) := (C.1.fr k2 (Or.inl (by omega))).fr F2 (Or.inl (by omega))
    have gd2 := gd.warm p (w := i) (by omega)
    obtain ⟨h3, l1, l2, l3⟩ := c_pass H2 yo_27 to_3 V.1.1 C2 T2 (d := d) (by omega) gd2.2.2.1
    have H3 := H2.fr l2
    have F3 : Fr h h3 27 37 := (k2.trans F2).trans l2
    have e3 : hI h3 (27 + 3) p = dayP (zT σ) (up2 (zY σ) 2 p (nI i)) 3 p := (l3.2.2.1 p hp8).1
    have hw : wmP (zT σ) (zY σ) k p (m + 1) i = if laP (zT σ) (up2 (zY σ) 2 p (nI i)) k = nI p then nI i else wmP (zT σ) (zY σ) k p m (i + 1) := rfl
    have step : L_X4_warmth_21 0 (nI k) (nI p) (fun h13 _ => some ((-1), h13)) (g + 1) h (nI i) = if ¬ dayP (zT σ) (up2 (zY σ) 2 p (nI i)) 3 p = nI k then L_X4_warmth_21 0 (nI k) (nI p) (fun h13 _ => some ((-1), h13)) g h3 (nI (i + 1)) else some (nI i, h3) := by
      conv => lhs; unfold L_X4_warmth_21
      rw [if_neg h9, o0_R4 H, Option.bind_some, o0_R3 H, Option.bind_some, k1, Option.bind_some, o0_R4 H1, Option.bind_some, y_R1 H1 yo_27, Option.bind_some, y_st2 H1 yo_27 hp8, Option.bind_some, o0_R4 H2, Option.bind_some, o0_R1 H2, Option.bind_some, l1, Option.bind_some, o0_R4 H3, Option.bind_some, y_R2 H3 yo_27, Option.bind_some, y_ld3 H3 yo_27 hp8, Option.bind_some, e3, nI_1]
    rw [step, hw]
    by_cases hl : laP (zT σ) (up2 (zY σ) 2 p (nI i)) k = nI p
    · rw [if_pos hl, if_neg (not_not_intro ((egg_iff V.1.1 _ hk hp8).mpr hl))]
      exact ⟨h3, rfl, F3⟩
    · rw [if_neg hl, if_pos (fun z => hl ((egg_iff V.1.1 _ hk hp8).mp z))]
      obtain ⟨h', n1, n2⟩ := ih (i + 1) g h3 H3 (C.fore V F3) (by omega) (by omega)
      exact ⟨h', n1, F3.trans n2⟩
theorem r_warm_loop (V : VI σ) {d k p : Nat} (gd : Gd (zT σ) (zY σ) d) (hd : d ≤ 999) (hk : k < tH (zT σ)) (hp : p < tP (zT σ)) : ∀ (m i g : Nat) (h : AH), Lo h → RT h (zT σ) → RK (zT σ) h (zY σ) → RY (zT σ) (hI h 148) (zY σ) → i + m = 10 → m < g → ∃ h', L_X5_warmth_25 145 (nI k) (nI p) (fun h7 _ => some ((-1), h7)) g h (nI i) = some (wmP (zT σ) (zY σ) k p m i, h') ∧ Fs h h' [156, 157] := by
  have v1 := V.1.1.1
  have v2 := V.1.1.2
  have hp8 : p < 8 := by omega
  intro m
  induction m with
  | zero =>
    intro i g h H T K R e hg
    obtain ⟨g, rfl⟩ : ∃ z, g = z + 1 := ⟨g - 1, by omega⟩
    have hi : i = 10 := by omega
    subst hi
    refine ⟨h, ?_, Fs.refl _ _⟩
    conv => lhs; unfold L_X5_warmth_25
    rw [if_pos (by decide)]
    rfl
  | succ m ih =>
    intro i g h H T K R e hg
    obtain ⟨g, rfl⟩ : ∃ z, g = z + 1 := ⟨g - 1, by omega⟩
    have h9 : ¬ (10 : Int32) ≤ nI i := nI_ge (b := 10) (by omega) (by omega)
    obtain ⟨h1, k1, k2, k3⟩ := r_layAside H V.1.1 R
    have H1 := H.fs k2
    have F2 : Fs h1 (sI h1 157 (10 + p) (nI i)) [156, 157] := (Fs.refl h1 _).sA (by decide)
    have H2 := H1.fs F2
    have F12 : Fs h (sI h1 157 (10 + p) (nI i)) [156, 157] := (k2.wide (by decide)).trans F2
    have R2 : RY (zT σ) (hI (sI h1 157 (10 + p) (nI i)) 157) (up2 (zY σ) 2 p (nI i)) := by
      rw [hI_sA, if_pos rfl]
      exact k3.up V.1.1 (i := 2) (j := p) (by unfold rgR; omega) (nI i)
    have K2 : RK (zT σ) (sI h1 157 (10 + p) (nI i)) (up2 (zY σ) 2 p (nI i)) := by
      have := K.fs F12 (by decide) (by decide)
      intro j hj
      rw [up2_ne (by omega), up2_ne (by omega)]
      exact this j hj
    have gd2 := gd.warm p (w := i) (by omega)
    obtain ⟨h3, l1, l2, l3, l4⟩ := r_go (n := 1) H2 V.1.1 (T.fs F12 (by decide)) K2 gd2 (by omega) (by omega) R2
    have e1 : nI 1 = 1 := rfl
    rw [e1] at l1
    have H3 := H2.fs l2
    have F3 : Fs h h3 [156, 157] := F12.trans (l2.wide (by decide))
    have e3 : hI h3 156 k = laP (zT σ) (up2 (zY σ) 2 p (nI i)) k := l4 (by omega) k (by omega)
    have hw : wmP (zT σ) (zY σ) k p (m + 1) i = if laP (zT σ) (up2 (zY σ) 2 p (nI i)) k = nI p then nI i else wmP (zT σ) (zY σ) k p m (i + 1) := rfl
    have step : L_X5_warmth_25 145 (nI k) (nI p) (fun h7 _ => some ((-1), h7)) (g + 1) h (nI i) = if ¬ laP (zT σ) (up2 (zY σ) 2 p (nI i)) k = nI p then L_X5_warmth_25 145 (nI k) (nI p) (fun h7 _ => some ((-1), h7)) g h3 (nI (i + 1)) else some (nI i, h3) := by
      conv => lhs; unfold L_X5_warmth_25
      rw [if_neg h9, k1, Option.bind_some, o145_R20 H1, Option.bind_some, al_10, o157_st H1 (by omega), Option.bind_some, l1, Option.bind_some, o145_R19 H3, Option.bind_some, o156_ld H3 (by omega), Option.bind_some, e3, nI_1]
    rw [step, hw]
    by_cases hl : laP (zT σ) (up2 (zY σ) 2 p (nI i)) k = nI p
    · rw [if_pos hl, if_neg (not_not_intro hl)]
      exact ⟨h3, rfl, F3⟩
    · rw [if_neg hl, if_pos hl]
      obtain ⟨h', n1, n2⟩ := ih (i + 1) g h3 H3 (T.fs F3 (by decide)) (K.fs F3 (by decide) (by decide)) (by rw [F3.2.2.2 148 (by decide)]; exact R) (by omega) (by omega)
      exact ⟨h', n1, F3.trans n2⟩
theorem op_warmth (V : VI σ) (a b : Int32) : Op (fun h => F_X4_warmth h 0 a b) (fun h => F_X5_warmth h 145 a b) σ := by
  have v1 := V.1.1.1
  have v2 := V.1.1.2
  have q10 : ¬ (1 : Int32) = 0 := by decide
  rcases ixs a (n := tH (zT σ)) (by omega) with hx | ⟨k, hk, rfl⟩
  · refine Op.const (-2) V (fun h H C => ?_) (fun h H R => ?_)
    · unfold F_X4_warmth
      simp only [o0_ck H, c_isH_no H C.1 hx, Option.bind_some, if_true]
    · unfold F_X5_warmth
      simp only [o145_ck H, r_isH_no H V.1.1 R.1 hx, Option.bind_some, if_true]
  · rcases ixs b (n := tP (zT σ)) (by omega) with hx | ⟨p, hp, rfl⟩
    · refine Op.const (-2) V (fun h H C => ?_) (fun h H R => ?_)
      · unfold F_X4_warmth
        simp only [o0_ck H, c_isH_yes H V.1.1 C.1 hk, c_isP_no H C.1 hx, Option.bind_some, q10, if_false, not_true_eq_false]
      · unfold F_X5_warmth
        simp only [o145_ck H, r_isH_yes H V.1.1 R.1 hk, r_isP_no H V.1.1 R.1 hx, Option.bind_some, q10, if_false, not_true_eq_false]
    · obtain ⟨d, hd, gd⟩ := Gd.of V.1 V.2.1
      refine Op.fore (wmP (zT σ) (zY σ) k p 10 0) V (fun h H C => ?_) (fun h H R => ?_)
      · obtain ⟨h', k1, k2⟩ := c_warm_loop V gd hd hk hp 10 0 FU h H C (by omega) (by unfold FU; omega)
        refine ⟨h', ?_, k2⟩
        rw [nI_0] at k1
        unfold F_X4_warmth
        simp only [o0_ck H, c_isH_yes H V.1.1 C.1 hk, c_isP_yes H V.1.1 C.1 hp, Option.bind_some, q10, if_false, not_false_eq_true, if_true]
        exact k1
      · obtain ⟨h1, a1, a2, a3⟩ := r_asTold (y := zY σ) H V.1.1 R.1 V.2.1.2.2.2.1
        have H1 := H.fs a2
        obtain ⟨h', k1, k2⟩ := r_warm_loop V gd hd hk hp 10 0 FU h1 H1 (R.1.fs a2 (by decide)) a3 (by rw [a2.2.2.2 148 (by decide)]; exact R.2.1) (by omega) (by unfold FU; omega)
        refine ⟨h', ?_, (a2.wide (by decide)).trans (k2.wide (by decide))⟩
        rw [nI_0] at k1
        unfold F_X5_warmth
        simp only [o145_ck H, r_isH_yes H V.1.1 R.1 hk, r_isP_yes H V.1.1 R.1 hp, Option.bind_some, q10, if_false, not_false_eq_true, if_true, a1]
        exact k1
end WARM
