/-! days going by on both sides; the reference's copies; tests of numbers -/
def itP (τ : TT) (y : YT) : Nat → YT
  | 0 => y
  | n + 1 => dayP τ (itP τ y n)
def Gd (τ : TT) (y : YT) (d : Nat) : Prop := (∀ p, p < tP τ → (∃ w, w ≤ 9 ∧ y 2 p = nI w) ∧ ∃ l, l ≤ 9 ∧ tY τ 3 p = nI l) ∧ (∀ k, k < tH τ → ∃ a, a ≤ 9 ∧ y 6 k = nI a) ∧ y 0 9 = nI d ∧ (y 0 10 = 0 ∨ y 0 10 = 1)
theorem Gd.vl {τ : TT} {y : YT} {d : Nat} (g : Gd τ y d) (hd : d ≤ 1100) : VL τ y := ⟨g.1, g.2.1, d, hd, g.2.2.1⟩
theorem day_row (τ : TT) (y : YT) (a : Nat) (ha : a = 1 ∨ a = 2 ∨ a = 5 ∨ a = 6) : dayP τ y a = y a := by
  funext b
  unfold dayP
  rw [up2_ne (by omega), up2_ne (by omega), dyP_row τ y a (by omega)]
theorem day_9 (τ : TT) (y : YT) : dayP τ y 0 9 = y 0 9 + 1 := up2_eq
theorem day_10 (τ : TT) (y : YT) : dayP τ y 0 10 = 0 := by unfold dayP; rw [up2_ne (by omega), up2_eq]
theorem day_0 (τ : TT) (y : YT) (j : Nat) (h : 10 < j) : dayP τ y 0 j = y 0 j := by unfold dayP; rw [up2_ne (by omega), up2_ne (by omega), dyP_row τ y 0 (by omega)]
theorem Gd.day {τ : TT} {y : YT} {d : Nat} (g : Gd τ y d) : Gd τ (dayP τ y) (d + 1) := by
  obtain ⟨g1, g2, g3, g4⟩ := g
  unfold Gd
  rw [day_row τ y 2 (by omega), day_row τ y 6 (by omega), day_9, day_10, g3, nI_1]
  exact ⟨g1, g2, rfl, Or.inl rfl⟩
theorem Gd.it {τ : TT} {y : YT} {d : Nat} (g : Gd τ y d) : ∀ n, Gd τ (itP τ y n) (d + n) := by
  intro n
  induction n with
  | zero => exact g
  | succ n ih => exact ih.day
theorem it_row (τ : TT) (y : YT) (a : Nat) (ha : a = 1 ∨ a = 2 ∨ a = 5 ∨ a = 6) : ∀ n, itP τ y n a = y a := by
  intro n
  induction n with
  | zero => rfl
  | succ n ih => show dayP τ (itP τ y n) a = y a; rw [day_row τ _ a ha, ih]
theorem RK.it {τ : TT} {h : AH} {y : YT} (K : RK τ h y) (n : Nat) : RK τ h (itP τ y n) := by
  unfold RK at K ⊢
  rw [it_row τ y 5 (by omega), it_row τ y 6 (by omega)]
  exact K
theorem it_shift (τ : TT) : ∀ (m : Nat) (z : YT), itP τ (dayP τ z) m = itP τ z (m + 1) := by
  intro m
  induction m with
  | zero => intro z; rfl
  | succ m ih => intro z; show dayP τ (itP τ (dayP τ z) m) = _; rw [ih]; rfl
section FORE
variable {τ : TT}
theorem c_fore_loop {β : Type} {kk : AH → Int32 → Option β} (V : VT τ) {n : Nat} (hn : n ≤ 100) : ∀ (m i f d : Nat) (h : AH) (z : YT), Lo h → CT h 3 τ → Gd τ z d → d + m ≤ 2000 → CY τ (Yc h 27) z → i + m = n → m < f → ∃ h', L_X4_foretell_13 0 (nI n) kk f h (nI i) = kk h' (nI n) ∧ Fr h h' 27 37 ∧ CY τ (Yc h' 27) (itP τ z m) := by
  intro m
  induction m with
  | zero =>
    intro i f d h z H T g hd C e hf
    obtain ⟨f, rfl⟩ : ∃ g, f = g + 1 := ⟨f - 1, by omega⟩
    have hi : i = n := by omega
    subst hi
    refine ⟨h, ?_, Fr.refl _ _ _, C⟩
    conv => lhs; unfold L_X4_foretell_13
    rw [if_pos (nI_le (Nat.le_refl _) (by omega))]
  | succ m ih =>
    intro i f d h z H T g hd C e hf
    obtain ⟨f, rfl⟩ : ∃ g, f = g + 1 := ⟨f - 1, by omega⟩
    obtain ⟨h1, k1, k2, k3⟩ := c_pass H yo_27 to_3 V C T (d := d) (by omega) g.2.2.1
    obtain ⟨h2, l1, l2, l3⟩ := ih (i + 1) f (d + 1) h1 (dayP τ z) (H.fr k2) (T.fr k2 (Or.inl (by omega))) g.day (by omega) k3 (by omega) (by omega)
    refine ⟨h2, ?_, k2.trans l2, ?_⟩
    · conv => lhs; unfold L_X4_foretell_13
      rw [if_neg (nI_ge (by omega) (by omega)), o0_R4 H, Option.bind_some, o0_R1 H, Option.bind_some, k1, Option.bind_some, nI_1, l1]
    · rw [← it_shift]
      exact l3
/-- n DAYS foretold from now -/
theorem c_foretell {h : AH} {y : YT} {d n : Nat} (H : Lo h) (V : VT τ) (T : CT h 3 τ) (C : CY τ (Yc h 17) y) (g : Gd τ y d) (hd : d ≤ 1000) (hn : n ≤ 100) : ∃ h', F_X4_foretell h 0 (nI n) = some h' ∧ Fr h h' 27 37 ∧ CY τ (Yc h' 27) (itP τ y n) := by
  obtain ⟨h1, k1, k2, k3⟩ := c_copy H yo_27 yo_17 (by decide) V C g.2.2.2
  obtain ⟨h2, l1, l2, l3⟩ := c_fore_loop (kk := fun h4 _ => some h4) V hn n 0 FU d h1 y (H.fr k2) (T.fr k2 (Or.inl (by omega))) g (by omega) k3 (by omega) (by unfold FU; omega)
  refine ⟨h2, ?_, k2.trans l2, l3⟩
  unfold F_X4_foretell
  rw [nI_0] at l1
  rw [o0_ck H, Option.bind_some, o0_R4 H, Option.bind_some, o0_R3 H, Option.bind_some, k1, Option.bind_some, l1]
end FORE
/-! the reference's copies -/
theorem copies_loop {β : Type} {o1 o2 n1 n2 i j n : Nat} {kk : AH → Int32 → Option β} (h1 : o1 < 158 ∧ lyS o1 = (10, n1)) (h2 : o2 < 158 ∧ lyS o2 = (10, n2)) (hne : o1 ≠ o2) (hi : i + n ≤ n1) (hj : j + n ≤ n2) (b1 : n1 < 900) (b2 : n2 < 900) :
    ∀ (m k f : Nat) (h : AH), Lo h → k + m = n → m < f → L_X5_copies_3 o1 (nI i) o2 (nI j) (nI n) kk f h (nI k) = kk (sA h o2 (fun q => if j + k ≤ q ∧ q < j + n then hI h o1 (i + (q - j)) else hI h o2 q)) (nI n) := by
  intro m
  induction m with
  | zero =>
    intro k f h H e hf
    obtain ⟨f, rfl⟩ : ∃ g, f = g + 1 := ⟨f - 1, by omega⟩
    have hk : k = n := by omega
    subst hk
    conv => lhs; unfold L_X5_copies_3
    rw [if_pos (nI_le (Nat.le_refl _) (by omega)), sA_eq (funext fun q => if_neg (by omega))]
  | succ m ih =>
    intro k f h H e hf
    obtain ⟨f, rfl⟩ : ∃ g, f = g + 1 := ⟨f - 1, by omega⟩
    conv => lhs; unfold L_X5_copies_3
    rw [if_neg (nI_ge (by omega) (by omega)), nI_add, op_ldA H h1.1 h1.2 (by omega) (by omega), Option.bind_some, nI_add, op_stA H h2.1 h2.2 (by omega) (by omega), Option.bind_some, nI_1, ih (k + 1) f _ (H.sA _ _) (by omega) (by omega), sA_sA]
    congr 2
    funext q
    simp only [hI_sA, if_true, if_neg hne, upd]
    by_cases hq : q = j + k
    · rw [if_neg (by omega), if_pos hq, if_pos (by omega)]
      congr 1
      omega
    · by_cases hq2 : j + k ≤ q ∧ q < j + n
      · rw [if_pos (by omega), if_pos hq2]
      · rw [if_neg (by omega), if_neg hq, if_neg hq2]
theorem copies_ok {h : AH} {o1 o2 n1 n2 : Nat} (i j n : Nat) (H : Lo h) (h1 : o1 < 158 ∧ lyS o1 = (10, n1)) (h2 : o2 < 158 ∧ lyS o2 = (10, n2)) (hne : o1 ≠ o2) (hi : i + n ≤ n1) (hj : j + n ≤ n2) (b1 : n1 < 900) (b2 : n2 < 900) : F_X5_copies h o1 (nI i) o2 (nI j) (nI n) = some (sA h o2 (fun q => if j ≤ q ∧ q < j + n then hI h o1 (i + (q - j)) else hI h o2 q)) := by
  unfold F_X5_copies
  have := copies_loop (kk := fun h3 _ => some h3) h1 h2 hne hi hj b1 b2 n 0 FU h H (by omega) (by unfold FU; omega)
  rw [nI_0] at this
  rw [this]
  rfl
theorem RY.of {τ : TT} {t t' : Nat → Int32} {y : YT} (R : RY τ t y) (V : VT τ) (e : ∀ j, j < 52 → t' j = t j) : RY τ t' y := by
  have v1 := V.1
  obtain ⟨⟨r1, r2, r3, r4, r5⟩, r6, r7, r8⟩ := R
  refine ⟨⟨?_, ?_, ?_, ?_, ?_⟩, fun q hq => ?_, fun q hq => ?_, fun q hq => ?_⟩
  · rw [e _ (by omega)]; exact r1
  · rw [e _ (by omega)]; exact r2
  · rw [e _ (by omega)]; exact r3
  · rw [e _ (by omega)]; exact r4
  · rw [e _ (by omega)]; exact r5
  · rw [e _ (by omega), e _ (by omega)]; exact r6 q hq
  · rw [e _ (by omega), e _ (by omega)]; exact r7 q hq
  · rw [e _ (by omega), e _ (by omega), e _ (by omega)]; exact r8 q hq
theorem ls_146 : 146 < 158 ∧ lyS 146 = (10, 50) := by decide
theorem ls_147 : 147 < 158 ∧ lyS 147 = (10, 50) := by decide
theorem ls_148 : 148 < 158 ∧ lyS 148 = (10, 52) := by decide
theorem ls_149 : 149 < 158 ∧ lyS 149 = (10, 416) := by decide
theorem ls_150 : 150 < 158 ∧ lyS 150 = (10, 104) := by decide
theorem ls_154 : 154 < 158 ∧ lyS 154 = (10, 5) := by decide
theorem ls_155 : 155 < 158 ∧ lyS 155 = (10, 5) := by decide
theorem ls_157 : 157 < 158 ∧ lyS 157 = (10, 52) := by decide
theorem ro_148 : RO 148 := Or.inl rfl
theorem ro_157 : RO 157 := Or.inr rfl
section RFORE
variable {τ : TT}
theorem r_asTold {h : AH} {y : YT} (H : Lo h) (V : VT τ) (T : RT h τ) (hk : ∀ k, k < tH τ → y 5 k = tY τ 4 k ∧ y 6 k = tY τ 5 k) : ∃ h', F_X5_asTold h 145 = some h' ∧ Fs h h' [154, 155] ∧ RK τ h' y := by
  have v2 := V.2
  have e1 : F_X5_copies h 146 26 154 0 5 = some _ := copies_ok 26 0 5 H ls_146 ls_154 (by decide) (by decide) (by decide) (by decide) (by decide)
  have F1 : Fs h (sA h 154 (fun q => if 0 ≤ q ∧ q < 0 + 5 then hI h 146 (26 + (q - 0)) else hI h 154 q)) [154, 155] := (Fs.refl h _).sA (by decide)
  have e2 : F_X5_copies (sA h 154 (fun q => if 0 ≤ q ∧ q < 0 + 5 then hI h 146 (26 + (q - 0)) else hI h 154 q)) 146 31 155 0 5 = some _ := copies_ok 31 0 5 (H.fs F1) ls_146 ls_155 (by decide) (by decide) (by decide) (by decide) (by decide)
  unfold F_X5_asTold
  rw [o145_ck H, Option.bind_some, o145_R0 H, Option.bind_some, o145_R17 H, Option.bind_some, e1, Option.bind_some, o145_R0 (H.fs F1), Option.bind_some, o145_R18 (H.fs F1), Option.bind_some, e2, Option.bind_some]
  refine ⟨_, rfl, F1.sA (by decide), fun k hkk => ?_⟩
  have hk5 : k < 5 := by omega
  obtain ⟨t4, t5⟩ := T.2.2.2.1 k hkk
  refine ⟨?_, ?_⟩
  · simp [hI_sA, hk5]
    rw [t4, (hk k hkk).1]
  · simp [hI_sA, hk5]
    rw [t5, (hk k hkk).2]
theorem r_layAside {h : AH} {y : YT} (H : Lo h) (V : VT τ) (R : RY τ (hI h 148) y) : ∃ h', F_X5_layAside h 145 = some h' ∧ Fs h h' [157] ∧ RY τ (hI h' 157) y := by
  have e1 : F_X5_copies h 148 0 157 0 52 = some _ := copies_ok 0 0 52 H ls_148 ls_157 (by decide) (by decide) (by decide) (by decide) (by decide)
  unfold F_X5_layAside
  rw [o145_ck H, Option.bind_some, o145_R2 H, Option.bind_some, o145_R20 H, Option.bind_some, e1, Option.bind_some]
  refine ⟨_, rfl, (Fs.refl h _).sA (by decide), ?_⟩
  rw [hI_sA, if_pos rfl]
  refine R.of V (fun j hj => ?_)
  rw [if_pos (by omega)]
  congr 1
  omega
theorem r_go_loop {β : Type} {kk : AH → Int32 → Option β} (V : VT τ) {n : Nat} (hn : n ≤ 100) : ∀ (m i f d : Nat) (h : AH) (z : YT), Lo h → RT h τ → RK τ h z → Gd τ z d → d + m ≤ 1100 → RY τ (hI h 157) z → i + m = n → m < f → ∃ h', L_X5_go_2 145 (nI n) kk f h (nI i) = kk h' (nI n) ∧ Fs h h' [157, 156] ∧ RY τ (hI h' 157) (itP τ z m) ∧ (m = 0 → h' = h) ∧ (0 < m → ∀ j, j < 5 → hI h' 156 j = laP τ (itP τ z (m - 1)) j) := by
  intro m
  induction m with
  | zero =>
    intro i f d h z H T K g hd R e hf
    obtain ⟨f, rfl⟩ : ∃ g, f = g + 1 := ⟨f - 1, by omega⟩
    have hi : i = n := by omega
    subst hi
    refine ⟨h, ?_, Fs.refl _ _, R, fun _ => rfl, fun z => absurd z (by decide)⟩
    conv => lhs; unfold L_X5_go_2
    rw [if_pos (nI_le (Nat.le_refl _) (by omega))]
  | succ m ih =>
    intro i f d h z H T K g hd R e hf
    obtain ⟨f, rfl⟩ : ∃ g, f = g + 1 := ⟨f - 1, by omega⟩
    obtain ⟨h1, k1, k2, k3, k4⟩ := r_goes H ro_157 V (g.vl (by omega)) g.2.2.2 R K T
    have K1 : RK τ h1 (dayP τ z) := (K.fs k2 (by decide) (by decide)).it 1
    obtain ⟨h2, l1, l2, l3, l0, l4⟩ := ih (i + 1) f (d + 1) h1 (dayP τ z) (H.fs k2) (T.fs k2 (by decide)) K1 g.day (by omega) k3 (by omega) (by omega)
    refine ⟨h2, ?_, k2.trans l2, ?_, fun z => absurd z (by omega), fun _ j hj => ?_⟩
    · conv => lhs; unfold L_X5_go_2
      rw [if_neg (nI_ge (by omega) (by omega)), o145_R20 H, Option.bind_some, k1, Option.bind_some, nI_1, l1]
    · rw [← it_shift]
      exact l3
    · by_cases hm : m = 0
      · subst hm
        rw [l0 rfl]
        exact k4 j hj
      · rw [l4 (by omega) j hj, it_shift]
        congr 2
        omega
theorem r_go {h : AH} {z : YT} {d n : Nat} (H : Lo h) (V : VT τ) (T : RT h τ) (K : RK τ h z) (g : Gd τ z d) (hd : d + n ≤ 1100) (hn : n ≤ 100) (R : RY τ (hI h 157) z) : ∃ h', F_X5_go h 145 (nI n) = some h' ∧ Fs h h' [157, 156] ∧ RY τ (hI h' 157) (itP τ z n) ∧ (0 < n → ∀ j, j < 5 → hI h' 156 j = laP τ (itP τ z (n - 1)) j) := by
  obtain ⟨h', k1, k2, k3, -, k4⟩ := r_go_loop (kk := fun h3 _ => some h3) V hn n 0 FU d h z H T K g hd R (by omega) (by unfold FU; omega)
  refine ⟨h', ?_, k2, k3, k4⟩
  rw [nI_0] at k1
  unfold F_X5_go
  rw [o145_ck H, Option.bind_some, k1]
end RFORE
/-! the reference's tests of numbers -/
theorem in_ok (h : AH) (x lo hi : Int32) (a b : Int64) (ea : a = lo.toInt64) (eb : b = hi.toInt64) : F_X5_in h x.toInt64 a b = some (if lo ≤ x ∧ x ≤ hi then 1 else 0) := by
  subst ea
  subst eb
  unfold F_X5_in lg_cmp
  simp only [gt_iff_lt, Int64.lt_iff_toInt_lt, ← Int64.toInt_inj, Int32.toInt_toInt64, Int32.le_iff_toInt_le]
  have c1 : ¬ (1 : Int32).toInt < (0 : Int32).toInt := by decide
  have c2 : ¬ (0 : Int32).toInt < (0 : Int32).toInt := by decide
  have c3 : (-1 : Int32).toInt < (0 : Int32).toInt := by decide
  have c4 : (0 : Int32).toInt < (1 : Int32).toInt := by decide
  have c5 : ¬ (0 : Int32).toInt < (-1 : Int32).toInt := by decide
  simp only [Int32.lt_iff_toInt_lt]
  by_cases h1 : lo.toInt < x.toInt
  · rw [if_pos h1, if_neg c1]
    by_cases h2 : hi.toInt < x.toInt
    · rw [if_pos h2, if_pos c4, if_neg (by omega)]
    · rw [if_neg h2]
      by_cases h3 : x.toInt = hi.toInt
      · rw [if_pos h3, if_neg c2, if_pos (by omega)]
      · rw [if_neg h3, if_neg c5, if_pos (by omega)]
  · rw [if_neg h1]
    by_cases h0 : x.toInt = lo.toInt
    · rw [if_pos h0, if_neg c2]
      by_cases h2 : hi.toInt < x.toInt
      · rw [if_pos h2, if_pos c4, if_neg (by omega)]
      · rw [if_neg h2]
        by_cases h3 : x.toInt = hi.toInt
        · rw [if_pos h3, if_neg c2, if_pos (by omega)]
        · rw [if_neg h3, if_neg c5, if_pos (by omega)]
    · rw [if_neg h0, if_pos c3, if_neg (by omega)]
theorem in_lit (h : AH) (x : Int32) (lo hi : Nat) (hl : lo < 2 ^ 31) (hh : hi < 2 ^ 31) : F_X5_in h x.toInt64 (lN lo) (lN hi) = some (if nI lo ≤ x ∧ x ≤ nI hi then 1 else 0) := in_ok h x (nI lo) (nI hi) _ _ (nI_l hl).symm (nI_l hh).symm
