/-! the class's yards: laying, a day, copies -/
theorem xr_nI (a b : Nat) : nI a ^^^ nI b = nI (a ^^^ b) := by
  apply Int32.toBitVec_inj.1
  show BitVec.ofNat 32 a ^^^ BitVec.ofNat 32 b = BitVec.ofNat 32 (a ^^^ b)
  apply BitVec.eq_of_getLsbD_eq
  intro i hi
  simp [hi]
theorem xr_pos {d : Nat} (h : d < 2 ^ 30) : (0 : Int32) ≤ nI d ^^^ 14 := by
  have e : nI d ^^^ 14 = nI (d ^^^ 14) := xr_nI d 14
  rw [e]
  exact nI_pos' (Nat.lt_trans (Nat.xor_lt_two_pow h (by decide : 14 < 2 ^ 30)) (by decide))
theorem Yc_sI (h : AH) (o i j : Nat) (v : Int32) : Yc (sI h (o + i) j v) o = up2 (Yc h o) i j v := by
  funext a b
  unfold Yc up2
  rw [hI_sA]
  by_cases ha : a = i
  · subst ha
    rw [if_pos rfl]
    unfold upd
    by_cases hb : b = j
    · rw [if_pos hb, if_pos ⟨rfl, hb⟩]
    · rw [if_neg hb, if_neg (fun z => hb z.2)]
  · rw [if_neg (by omega), if_neg (fun z => ha z.1)]
theorem Yc_sI0 (h : AH) (o j : Nat) (v : Int32) : Yc (sI h o j v) o = up2 (Yc h o) 0 j v := Yc_sI h o 0 j v
theorem Yc_sA (h : AH) (o i : Nat) (g : Nat → Int32) : Yc (sA h (o + i) g) o = upR (Yc h o) i g := by
  funext a
  unfold Yc upR
  funext b
  rw [hI_sA]
  by_cases ha : a = i
  · subst ha
    rw [if_pos rfl, if_pos rfl]
  · rw [if_neg (by omega), if_neg ha]
theorem Yc_fr {h h' : AH} {o a b : Nat} (F : Fr h h' a b) (hd : o + 10 ≤ a ∨ b ≤ o) : ∀ i, i < 10 → Yc h' o i = Yc h o i := by
  intro i hi
  funext j
  show hI h' (o + i) j = hI h (o + i) j
  rw [F.2.2.2 _ (by omega)]
theorem CY.fr {h h' : AH} {o a b : Nat} {τ : TT} {y : YT} (C : CY τ (Yc h o) y) (F : Fr h h' a b) (hd : o + 10 ≤ a ∨ b ≤ o) : CY τ (Yc h' o) y := by
  have e := Yc_fr F hd
  unfold CY at C ⊢
  rw [e 0 (by omega), e 1 (by omega), e 2 (by omega), e 3 (by omega), e 4 (by omega), e 5 (by omega), e 6 (by omega), e 7 (by omega), e 8 (by omega), e 9 (by omega)]
  exact C
theorem cp8 {h : AH} {q1 q2 : Nat} (H : Lo h) (z1 : q1 < 158 ∧ lyS q1 = (10, 8)) (z2 : q2 < 158 ∧ lyS q2 = (10, 8)) : cpA h q1 0 q2 0 8 = some (sA h q2 (va_cpy (hI h q1) (hI h q2) 0 0 8)) := op_cpA (n := 8) H z1.1 z1.2 z2.1 z2.2 (by omega) (by omega) (by omega)
theorem cp5 {h : AH} {q1 q2 : Nat} (H : Lo h) (z1 : q1 < 158 ∧ lyS q1 = (10, 5)) (z2 : q2 < 158 ∧ lyS q2 = (10, 5)) : cpA h q1 0 q2 0 5 = some (sA h q2 (va_cpy (hI h q1) (hI h q2) 0 0 5)) := op_cpA (n := 5) H z1.1 z1.2 z2.1 z2.2 (by omega) (by omega) (by omega)
theorem cp14 {h : AH} {q1 q2 : Nat} (H : Lo h) (z1 : q1 < 158 ∧ lyS q1 = (10, 14)) (z2 : q2 < 158 ∧ lyS q2 = (10, 14)) : cpA h q1 0 q2 0 14 = some (sA h q2 (va_cpy (hI h q1) (hI h q2) 0 0 14)) := op_cpA (n := 14) H z1.1 z1.2 z2.1 z2.2 (by omega) (by omega) (by omega)
theorem fl8 {h : AH} {q : Nat} {v : Int32} (H : Lo h) (z : q < 158 ∧ lyS q = (10, 8)) : F_J7_fill_53178 h q v = some (sA h q (fun j => if j < 8 then v else hI h q j)) := fill_ok H z.1 z.2 (by omega)
theorem fl5 {h : AH} {q : Nat} {v : Int32} (H : Lo h) (z : q < 158 ∧ lyS q = (10, 5)) : F_J7_fill_53178 h q v = some (sA h q (fun j => if j < 5 then v else hI h q j)) := fill_ok H z.1 z.2 (by omega)
theorem fl14 {h : AH} {q : Nat} {v : Int32} (H : Lo h) (z : q < 158 ∧ lyS q = (10, 14)) : F_J7_fill_53178 h q v = some (sA h q (fun j => if j < 14 then v else hI h q j)) := fill_ok H z.1 z.2 (by omega)
theorem yo_apart {a b : Nat} (ha : YO a) (hb : YO b) (h : a ≠ b) : a + 10 ≤ b ∨ b + 10 ≤ a := by
  have : ∀ a ∈ [17, 27, 45, 55, 65, 75, 85, 95, 105, 115, 125, 135], ∀ b ∈ [17, 27, 45, 55, 65, 75, 85, 95, 105, 115, 125, 135], a ≠ b → a + 10 ≤ b ∨ b + 10 ≤ a := by decide
  exact this a ha b hb h
theorem cpy0 {f g : Nat → Int32} {n j : Nat} (h : j < n) : va_cpy f g 0 0 n j = f j := by
  unfold va_cpy
  rw [if_pos (by omega)]
  congr 1
  omega
section CYARD2
variable {h : AH} {o t : Nat} {τ : TT} {y : YT}
theorem c_news (H : Lo h) (ht : TO t) (T : CT h t τ) {d : Nat} (hd : d < 2 ^ 30) : F_X2_newsOf h t (nI d) = some (tY τ 6 (d % 14)) := by
  have h14 : ¬ (14 : Int32) = 0 := by decide
  have er : nI d - nI d / 14 * 14 = nI (d % 14) := pk_rem (a := d) (d := 14) (by omega) (by omega) (by omega)
  have hm : d % 14 < 14 := Nat.mod_lt _ (by omega)
  unfold F_X2_newsOf F_J9_floorMod_7cf53 rmI
  simp only [t_ck H ht, t_R7 H ht, Option.bind_some, if_neg h14, if_pos (xr_pos hd), er, t_ld6 H ht hm, T.2.2.2.2 _ hm]
theorem c_layEgg (H : Lo h) (ho : YO o) (V : VT τ) (C : CY τ (Yc h o) y) {k p : Nat} (hk : k < tH τ) (hp : p < tP τ) : ∃ h', F_X3_layEgg h o (nI k) (nI p) (tY τ 6 ((y 0 9).toNatClampNeg % 14)) = some h' ∧ Fr h h' o (o + 10) ∧ CY τ (Yc h' o) (egP τ y k p) := by
  have v1 := V.1
  have v2 := V.2
  have e1 : hI h (o + 1) p = y 1 p := (C.2.1 p hp).1
  have h10 : ¬ (1 : Int32) = 0 := by decide
  have hp8 : p < 8 := by omega
  have hk5 : k < 5 := by omega
  obtain ⟨c0, c1, c3, c5, c7⟩ := C
  have m1 : ¬ nI k = -1 := nI_m1 (by omega)
  unfold F_X3_layEgg
  by_cases hr : tY τ 6 ((y 0 9).toNatClampNeg % 14) = y 1 p
  · have hB : rgB τ y p = true := decide_eq_true hr
    simp only [y_ck H ho, y_R0 H ho, y_R2, y_R6, y_R3, y_R7, y_R8, y_ld1 H ho hp8, y_st3, y_st7, y_st4, y_ld8, y_st8, y_ld9, y_st9, Option.bind_some, e1, hr, not_true_eq_false, if_false, Lo_sA, H, ho, hp8, hk5, if_neg h10]
    refine ⟨_, rfl, ?_, ?_⟩
    · exact ((((Fr.refl h _ _).sA (by omega) (by omega)).sA (by omega) (by omega)).sA (by omega) (by omega)).sA (by omega) (by omega)
    · rw [Yc_sI, Yc_sI, Yc_sI, Yc_sI]
      have e8 : hI (sI (sI (sI h (o + 3) p (nI k)) (o + 7) k (nI p)) (o + 4) p 2) (o + 8) k = y 8 k := by
        rw [hI_sA, if_neg (by omega), hI_sA, if_neg (by omega), hI_sA, if_neg (by omega)]
        exact (c7 k hk5).2.1
      rw [e8]
      unfold egP
      rw [hB]
      refine ⟨fun j h1 h2 => ?_, fun q hq => ?_, fun q hq => ?_, fun q hq => ?_, fun q hq => ?_⟩
      · simpa [up2] using c0 j h1 h2
      · simpa [up2] using c1 q hq
      · by_cases hqp : q = p
        · subst hqp
          simp [up2]
        · simpa [up2, hqp] using c3 q hq
      · simpa [up2] using c5 q hq
      · by_cases hqk : q = k
        · subst hqk
          have := c7 q hq
          simp [up2, this]
        · simpa [up2, hqk] using c7 q hq
  · have hB : rgB τ y p = false := decide_eq_false hr
    simp only [y_ck H ho, y_R0 H ho, y_R2, y_R6, y_R3, y_R7, y_R8, y_ld1 H ho hp8, y_st3, y_st7, y_st4, y_ld8, y_st8, y_ld9, y_st9, Option.bind_some, e1, hr, not_false_eq_true, if_true, Lo_sA, H, ho, hp8, hk5]
    refine ⟨_, rfl, ?_, ?_⟩
    · exact ((((Fr.refl h _ _).sA (by omega) (by omega)).sA (by omega) (by omega)).sA (by omega) (by omega)).sA (by omega) (by omega)
    · rw [Yc_sI, Yc_sI, Yc_sI, Yc_sI]
      have e8 : hI (sI (sI (sI h (o + 3) p (nI k)) (o + 7) k (nI p)) (o + 4) p (-1)) (o + 9) k = y 9 k := by
        rw [hI_sA, if_neg (by omega), hI_sA, if_neg (by omega), hI_sA, if_neg (by omega)]
        exact (c7 k hk5).2.2
      rw [e8]
      unfold egP
      rw [hB]
      refine ⟨fun j h1 h2 => ?_, fun q hq => ?_, fun q hq => ?_, fun q hq => ?_, fun q hq => ?_⟩
      · simpa [up2] using c0 j h1 h2
      · simpa [up2] using c1 q hq
      · by_cases hqp : q = p
        · subst hqp
          simp [up2]
        · simpa [up2, hqp] using c3 q hq
      · simpa [up2] using c5 q hq
      · by_cases hqk : q = k
        · subst hqk
          have := c7 q hq
          simp [up2, this]
        · simpa [up2, hqk] using c7 q hq
theorem c_pass_loop {β : Type} {kk : AH → Int32 → Option β} (ho : YO o) (ht : TO t) (V : VT τ) {d : Nat} (hd : d < 2 ^ 30) (hy : y 0 9 = nI d) : ∀ (m i f : Nat) (h : AH), Lo h → CT h t τ → CY τ (Yc h o) (dyP τ y i) → i + m = tH τ → m < f → ∃ h', L_X3_passDay_10 o t kk f h (nI i) = kk h' (nI (tH τ)) ∧ Fr h h' o (o + 10) ∧ CY τ (Yc h' o) (dyP τ y (tH τ)) := by
  have v1 := V.1
  have v2 := V.2
  intro m
  induction m with
  | zero =>
    intro i f h H T C e hf
    obtain ⟨f, rfl⟩ : ∃ g, f = g + 1 := ⟨f - 1, by omega⟩
    have hi : i = tH τ := by omega
    subst hi
    unfold L_X3_passDay_10
    rw [t_gI H ht, Option.bind_some, T.2.1, if_pos (nI_le (Nat.le_refl _) (by omega))]
    exact ⟨h, rfl, Fr.refl _ _ _, C⟩
  | succ m ih =>
    intro i f h H T C e hf
    obtain ⟨f, rfl⟩ : ∃ g, f = g + 1 := ⟨f - 1, by omega⟩
    have hi : i < tH τ := by omega
    unfold L_X3_passDay_10
    have e9 : hI h o 9 = nI d := by
      have := C.1 9 (by omega) (by omega)
      rw [dyP_row τ y 0 (Or.inl rfl), hy] at this
      exact this
    have e9c : (dyP τ y i 0 9).toNatClampNeg = d := by rw [dyP_row τ y 0 (Or.inl rfl), hy, nI_clamp (by omega)]
    simp only [t_gI H ht, Option.bind_some, T.2.1, if_neg (nI_ge (show i < tH τ by omega) (show tH τ < 2 ^ 31 by omega)), c_lays H ho C V hi, c_fav H ho ht V C T hi, y_gI H ho, e9, c_news H ht T hd, nI_1]
    have hq' : (if (if dyP τ y i 0 10 = 0 ∧ (¬ dyP τ y i 5 i = 1 ∨ rmd (dyP τ y i 0 9) 2 = 0) then (1 : Int32) else 0) = 0 then some (-1) else some (bsP τ (dyP τ y i) i (tP τ)).1) = some (plP τ (dyP τ y i) i) := by
      unfold plP
      by_cases hc : dyP τ y i 0 10 = 0 ∧ (¬ dyP τ y i 5 i = 1 ∨ rmd (dyP τ y i 0 9) 2 = 0)
      · rw [if_pos hc, if_pos hc, if_neg (by decide)]
      · rw [if_neg hc, if_neg hc, if_pos rfl]
    rw [hq', Option.bind_some]
    have hn : dyP τ y (i + 1) = hnP τ (dyP τ y i) i := rfl
    rcases plP_place V (dyP τ y i) i with hz | ⟨p, hp, hz, hz3⟩
    · rw [if_pos hz, Option.bind_some]
      have hn2 : dyP τ y (i + 1) = dyP τ y i := by rw [hn]; unfold hnP; rw [if_pos hz]
      exact ih (i + 1) f h H T (by rw [hn2]; exact C) (by omega) (by omega)
    · have hne : ¬ plP τ (dyP τ y i) i = -1 := by rw [hz]; exact nI_m1 (by omega)
      obtain ⟨h1, g1, g2, g3⟩ := c_layEgg H ho V C hi hp
      rw [e9c] at g1
      have hn2 : dyP τ y (i + 1) = egP τ (dyP τ y i) i p := by rw [hn]; unfold hnP; rw [if_neg hne, hz, nI_clamp (by omega)]
      rw [if_neg hne, hz, g1, Option.bind_some, Option.bind_some]
      have ylt := yo_lt ho
      have tlt := to_lt ht
      obtain ⟨h2, k1, k2, k3⟩ := ih (i + 1) f h1 (H.fr g2) (T.fr g2 (Or.inl (by omega))) (by rw [hn2]; exact g3) (by omega) (by omega)
      exact ⟨h2, k1, g2.trans k2, k3⟩
/-- a DAY, on the class's side -/
theorem c_pass (H : Lo h) (ho : YO o) (ht : TO t) (V : VT τ) (C : CY τ (Yc h o) y) (T : CT h t τ) {d : Nat} (hd : d < 2 ^ 30) (hy : y 0 9 = nI d) : ∃ h', F_X3_passDay h o t = some h' ∧ Fr h h' o (o + 10) ∧ CY τ (Yc h' o) (dayP τ y) := by
  have ylt := yo_lt ho
  have tlt := to_lt ht
  have v2 := V.2
  have F1 : Fr h (sA h (o + 3) (fun j => if j < 8 then -1 else hI h (o + 3) j)) o (o + 10) := (Fr.refl h _ _).sA (by omega) (by omega)
  have C1 : CY τ (Yc (sA h (o + 3) (fun j => if j < 8 then -1 else hI h (o + 3) j)) o) (dyP τ y 0) := by
    obtain ⟨c0, c1, c3, c5, c7⟩ := C
    rw [Yc_sA]
    unfold dyP
    refine ⟨fun j h1 h2 => ?_, fun q hq => ?_, fun q hq => ?_, fun q hq => ?_, fun q hq => ?_⟩
    · simpa [upR] using c0 j h1 h2
    · simpa [upR] using c1 q hq
    · simp [upR, hq]
    · simpa [upR] using c5 q hq
    · simpa [upR] using c7 q hq
  unfold F_X3_passDay
  rw [y_ck H ho, Option.bind_some, y_R2 H ho, Option.bind_some, fl8 H (y_ls3 ho), Option.bind_some]
  obtain ⟨h1, k1, k2, k3⟩ := c_pass_loop (kk := fun h9 _ => Option.bind (ptZ h9 o 3 10 0) fun h11 => Option.bind (gtI h11 o 3 9) fun v12 => Option.bind (ptI h11 o 3 9 (v12 + 1)) fun h13 => some h13) ho ht V hd hy (tH τ) 0 FU _ (H.fr F1) (T.fr F1 (Or.inl (by omega))) C1 (by omega) (by unfold FU; omega)
  have H1 : Lo h1 := (H.fr F1).fr k2
  rw [nI_0] at k1
  rw [k1]
  have hz0 : (0 : Int32) = 0 ∨ (0 : Int32) = 1 := Or.inl rfl
  have e9 : hI (sI h1 o 10 0) o 9 = y 0 9 := by
    rw [hI_sA, if_pos rfl]
    show (if 9 = 10 then (0 : Int32) else hI h1 o 9) = y 0 9
    rw [if_neg (by decide)]
    have := k3.1 9 (by omega) (by omega)
    rw [dyP_row τ y 0 (Or.inl rfl)] at this
    exact this
  simp only [y_pZ H1 ho hz0, Option.bind_some, y_gI, y_pI, Lo_sA, H1, ho, e9]
  refine ⟨_, rfl, ((F1.trans k2).sA (by omega) (by omega)).sA (by omega) (by omega), ?_⟩
  rw [Yc_sI0, Yc_sI0]
  obtain ⟨c0, c1, c3, c5, c7⟩ := k3
  unfold dayP
  refine ⟨fun j h1 h2 => ?_, fun q hq => ?_, fun q hq => ?_, fun q hq => ?_, fun q hq => ?_⟩
  · by_cases hj9 : j = 9
    · subst hj9; simp [up2]
    · by_cases hj : j = 10
      · subst hj; simp [up2]
      · simpa [up2, hj9, hj] using c0 j h1 h2
  · simpa [up2] using c1 q hq
  · simpa [up2] using c3 q hq
  · simpa [up2] using c5 q hq
  · simpa [up2] using c7 q hq
end CYARD2
