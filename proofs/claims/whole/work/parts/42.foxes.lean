/-! foxes -/
def gs : Nat → Nat → Nat → Nat
  | 0, x, _ => x
  | f + 1, x, y => if y = 0 then x else gs f y (x % y)
def gt : Nat → Nat → Nat → Option Nat
  | 0, _, _ => none
  | f + 1, x, y => if y = 0 then some x else gt f y (x % y)
theorem gs_tab : ∀ q, q < 11 → ∀ i, i < 7 → gt 40 ((10 - q) ^ i) (10 ^ i) = some (gs 64 (10 ^ i) ((10 - q) ^ i)) ∧ 1 ≤ gs 64 (10 ^ i) ((10 - q) ^ i) ∧ gs 64 (10 ^ i) ((10 - q) ^ i) ≤ 10 ^ i := by decide +kernel
theorem gt_more : ∀ (f x y g : Nat), gt f x y = some g → ∀ e, gt (f + e) x y = some g := by
  intro f
  induction f with
  | zero => intro x y g h; cases h
  | succ f ih =>
    intro x y g h e
    have e1 : f + 1 + e = (f + e) + 1 := by omega
    rw [e1]
    unfold gt at h ⊢
    split
    next hy => rw [if_pos hy] at h; exact h
    next hy => rw [if_neg hy] at h; exact ih _ _ _ h e
theorem power_loop {h : AH} {b n : Nat} (hb : b ≤ 10) (hn : n ≤ 6) {β : Type} {kk : Int32 → Int32 → Option β} : ∀ (m i f : Nat), i + m = n → m < f → L_X4_power_4 h (nI b) (nI n) kk f (nI (b ^ i)) (nI i) = kk (nI (b ^ n)) (nI n) := by
  intro m
  induction m with
  | zero =>
    intro i f e hf
    obtain ⟨f, rfl⟩ : ∃ g, f = g + 1 := ⟨f - 1, by omega⟩
    have hi : i = n := by omega
    subst hi
    conv => lhs; unfold L_X4_power_4
    rw [if_pos (nI_le (Nat.le_refl _) (by omega))]
  | succ m ih =>
    intro i f e hf
    obtain ⟨f, rfl⟩ : ∃ g, f = g + 1 := ⟨f - 1, by omega⟩
    conv => lhs; unfold L_X4_power_4
    rw [if_neg (nI_ge (by omega) (by omega)), pk_mul, nI_1, ← Nat.pow_succ]
    exact ih (i + 1) f (by omega) (by omega)
theorem power_ok (h : AH) {b n : Nat} (hb : b ≤ 10) (hn : n ≤ 6) : F_X4_power h (nI b) (nI n) = some (nI (b ^ n)) := by
  unfold F_X4_power
  exact power_loop (kk := fun y1 _ => some y1) hb hn n 0 FU (by omega) (by unfold FU; omega)
theorem cd_loop {h : AH} {x0 x1 : Int32} : ∀ (m i f x y : Nat), x < 2 ^ 31 → y < 2 ^ 31 → i + m = 64 → m < f → L_X4_commonDivisor_7 h x0 x1 (fun y2 _ _ => some y2) f (nI x) (nI y) (nI i) = some (nI (gs m x y)) := by
  intro m
  induction m with
  | zero =>
    intro i f x y hx hy e hf
    obtain ⟨f, rfl⟩ : ∃ g, f = g + 1 := ⟨f - 1, by omega⟩
    have hi : i = 64 := by omega
    subst hi
    conv => lhs; unfold L_X4_commonDivisor_7
    rw [if_pos (by decide)]
    rfl
  | succ m ih =>
    intro i f x y hx hy e hf
    obtain ⟨f, rfl⟩ : ∃ g, f = g + 1 := ⟨f - 1, by omega⟩
    have h64 : ¬ (64 : Int32) ≤ nI i := nI_ge (b := 64) (by omega) (by omega)
    conv => lhs; unfold L_X4_commonDivisor_7
    rw [if_neg h64]
    unfold gs
    by_cases h0 : y = 0
    · subst h0
      rw [if_pos (by decide), if_pos rfl]
    · have hm : x % y < y := Nat.mod_lt _ (by omega)
      rw [if_neg (nI_nle (by omega) hy), if_neg h0]
      unfold rmI
      rw [if_neg (nI_ne0 (by omega) hy), Option.bind_some, pk_rem hx (by omega) hy, nI_1]
      exact ih (i + 1) f y (x % y) hy (by omega) (by omega) (by omega)
theorem cd_ok (h : AH) {a b : Nat} (ha : a < 2 ^ 31) (hb : b < 2 ^ 31) : F_X4_commonDivisor h (nI a) (nI b) = some (nI (gs 64 b a)) := by
  unfold F_X4_commonDivisor
  exact cd_loop 64 0 FU b a hb ha (by omega) (by unfold FU; omega)
theorem gl_loop {h : AH} {o0 : Nat} {x1 x2 x3 x4 x9 : Int32} {x5 x7 : Int64} {kk : Int64 → Int64 → Option (Int32 × AH)} {kr : Int64 → Option (Int32 × AH)} (hk : ∀ a b, kk a b = kr a) : ∀ (f x y g : Nat), x < 2 ^ 31 → y < 2 ^ 31 → gt f x y = some g → L_X5_foxes_155 h o0 x1 x2 x3 x4 x5 x7 x9 kk f (lN x) (lN y) = kr (lN g) := by
  intro f
  induction f with
  | zero => intro x y g _ _ h; cases h
  | succ f ih =>
    intro x y g hx hy hg
    conv => lhs; unfold L_X5_foxes_155
    unfold gt at hg
    have z0 : (0 : Int64) = lN 0 := rfl
    by_cases h0 : y = 0
    · subst h0
      rw [if_pos rfl] at hg
      have : lg_cmp (lN 0) 0 = 0 := by decide
      rw [if_pos this, hk]
      cases hg
      rfl
    · rw [if_neg h0] at hg
      have hne : ¬ lN y = 0 := fun z => h0 ((pk_lEQ (by omega) (by omega)).mp z)
      have hc : ¬ lg_cmp (lN y) 0 = 0 := by
        unfold lg_cmp
        split
        · decide
        · first | decide | (rw [if_neg hne]; decide)
      have hm : x % y < y := Nat.mod_lt _ (by omega)
      rw [if_neg hc]
      unfold rmL
      rw [if_neg hne, Option.bind_some, pk_lRem (by omega) (by omega) (by omega)]
      exact ih y (x % y) g hy (by omega) hg
section FOX
variable {σ : SG}
theorem it_8 (τ : TT) (y : YT) {k r : Nat} (hr : y 8 k = nI r) : ∀ i, ∃ c, c ≤ i ∧ itP τ y i 8 k = nI (r + c) := by
  intro i
  induction i with
  | zero => exact ⟨0, Nat.le_refl _, hr⟩
  | succ i ih =>
    obtain ⟨c, hc, ec⟩ := ih
    rcases day_8 τ (itP τ y i) k with e | e
    · exact ⟨c, by omega, by show dayP τ (itP τ y i) 8 k = _; rw [e, ec]⟩
    · exact ⟨c + 1, by omega, by show dayP τ (itP τ y i) 8 k = _; rw [e, ec, nI_1]; rfl⟩
theorem rt_c {τ : TT} {y : YT} {k r i : Nat} (hr : y 8 k = nI r) (hb : r ≤ 999) (hi : i ≤ 100) : (itP τ y i 8 k - y 8 k ≤ 0 ↔ itP τ y i 8 k = y 8 k) ∧ (itP τ y i 8 k ≤ y 8 k ↔ itP τ y i 8 k = y 8 k) := by
  obtain ⟨c, hc, ec⟩ := it_8 τ y hr i
  rw [ec, hr]
  have e1 : nI (r + c) - nI r = nI c := by
    rw [pk_sub (by omega)]
    congr 1
    omega
  rw [e1]
  have e2 : nI (r + c) = nI r ↔ c = 0 := by
    rw [nI_eq (by omega) (by omega)]
    omega
  rw [e2]
  refine ⟨?_, ?_⟩
  · have z : (0 : Int32) = nI 0 := rfl
    rw [z, nI_leI (by omega) (by omega)]
    omega
  · rw [nI_leI (by omega) (by omega)]
    omega
/-- the first day, i, i + 1 .., m of them tried, by which hen k was right; 0: none -/
def fdN (τ : TT) (y : YT) (k : Nat) : Nat → Nat → Nat
  | 0, _ => 0
  | m + 1, i => if itP τ y i 8 k = y 8 k then fdN τ y k m (i + 1) else i
theorem fdN_le (τ : TT) (y : YT) (k : Nat) : ∀ m i, fdN τ y k m i = 0 ∨ (i ≤ fdN τ y k m i ∧ fdN τ y k m i < i + m) := by
  intro m
  induction m with
  | zero => intro i; exact Or.inl rfl
  | succ m ih =>
    intro i
    unfold fdN
    split
    next =>
      rcases ih (i + 1) with e | e
      · exact Or.inl e
      · exact Or.inr (by omega)
    next => exact Or.inr (by omega)
def fdI (n : Nat) : Int32 := if n = 0 then -1 else nI n
theorem c_fox_loop (V : VI σ) {k n r : Nat} (hk : k < tH (zT σ)) (hn : n ≤ 6) (hr : zY σ 8 k = nI r) (hr9 : r ≤ 999) : ∀ (m i g d : Nat) (h : AH), Lo h → CI h σ → Gd (zT σ) (itP (zT σ) (zY σ) i) d → d + m ≤ 2000 → CY (zT σ) (Yc h 27) (itP (zT σ) (zY σ) i) → i + m = n → m < g → ∃ h', L_X4_daysToFirstRight_13 0 (nI k) (nI n) (fun h5 _ => some ((-1), h5)) g h (nI (i + 1)) = some (fdI (fdN (zT σ) (zY σ) k m (i + 1)), h') ∧ Fr h h' 27 37 := by
  have v2 := V.1.1.2
  intro m
  induction m with
  | zero =>
    intro i g d h H C gd hd C2 e hg
    obtain ⟨g, rfl⟩ : ∃ z, g = z + 1 := ⟨g - 1, by omega⟩
    have hi : i = n := by omega
    subst hi
    refine ⟨h, ?_, Fr.refl _ _ _⟩
    conv => lhs; unfold L_X4_daysToFirstRight_13
    rw [if_pos (nI_lt (by omega) (by omega))]
    rfl
  | succ m ih =>
    intro i g d h H C gd hd C2 e hg
    obtain ⟨g, rfl⟩ : ∃ z, g = z + 1 := ⟨g - 1, by omega⟩
    obtain ⟨h1, k1, k2, k3⟩ := c_pass H yo_27 to_3 V.1.1 C2 C.1 (d := d) (by omega) gd.2.2.1
    have H1 := H.fr k2
    have C1 := C.fore V k2
    have k3' : CY (zT σ) (Yc h1 27) (itP (zT σ) (zY σ) (i + 1)) := k3
    have hf : fdN (zT σ) (zY σ) k (m + 1) (i + 1) = if itP (zT σ) (zY σ) (i + 1) 8 k = zY σ 8 k then fdN (zT σ) (zY σ) k m (i + 1 + 1) else i + 1 := rfl
    have hc := (rt_c (τ := zT σ) (i := i + 1) hr hr9 (by omega)).1
    have step : L_X4_daysToFirstRight_13 0 (nI k) (nI n) (fun h5 _ => some ((-1), h5)) (g + 1) h (nI (i + 1)) = if itP (zT σ) (zY σ) (i + 1) 8 k - zY σ 8 k ≤ 0 then L_X4_daysToFirstRight_13 0 (nI k) (nI n) (fun h5 _ => some ((-1), h5)) g h1 (nI (i + 1 + 1)) else some (nI (i + 1), h1) := by
      conv => lhs; unfold L_X4_daysToFirstRight_13
      rw [if_neg (nI_nlt (by omega) (by omega)), o0_R4 H, Option.bind_some, o0_R1 H, Option.bind_some, k1, Option.bind_some, c_rf H1 C1 k3' (by omega), Option.bind_some, nI_1]
    rw [step, hf]
    by_cases he : itP (zT σ) (zY σ) (i + 1) 8 k = zY σ 8 k
    · rw [if_pos (hc.mpr he), if_pos he]
      obtain ⟨h', n1, n2⟩ := ih (i + 1) g (d + 1) h1 H1 C1 gd.day (by omega) k3' (by omega) (by omega)
      exact ⟨h', n1, k2.trans n2⟩
    · rw [if_neg (fun z => he (hc.mp z)), if_neg he]
      refine ⟨h1, ?_, k2⟩
      unfold fdI
      rw [if_neg (by omega)]
theorem r_fox_loop {kk : AH → Int64 → Int64 → Int32 → Int32 → Option (Int32 × AH)} (V : VI σ) {k n r q : Nat} {x4 : Int32} (hk : k < tH (zT σ)) (hn : n ≤ 6) (hq : q ≤ 10) (hr : zY σ 8 k = nI r) (hr9 : r ≤ 999) : ∀ (m i g d : Nat) (h : AH), Lo h → RT h (zT σ) → RK (zT σ) h (itP (zT σ) (zY σ) i) → Gd (zT σ) (itP (zT σ) (zY σ) i) d → d + m ≤ 1100 → RY (zT σ) (hI h 157) (itP (zT σ) (zY σ) i) → RY (zT σ) (hI h 148) (zY σ) → i + m = n → m + 1 < g → ∃ h' e, (if fdN (zT σ) (zY σ) k m (i + 1) = 0 then e = n else e = fdN (zT σ) (zY σ) k m (i + 1)) ∧ L_X5_foxes_66 145 (nI k) (nI n) (nI q) x4 kk g h (lN ((10 - q) ^ i)) (lN (10 ^ i)) 0 (nI i) = kk h' (lN ((10 - q) ^ e)) (lN (10 ^ e)) (if fdN (zT σ) (zY σ) k m (i + 1) = 0 then 0 else 1) (nI e) ∧ Fs h h' [157, 156] := by
  have v2 := V.1.1.2
  intro m
  induction m with
  | zero =>
    intro i g d h H T K gd hd R R0 e hg
    obtain ⟨g, rfl⟩ : ∃ z, g = z + 1 := ⟨g - 1, by omega⟩
    have hi : i = n := by omega
    subst hi
    refine ⟨h, i, rfl, ?_, Fs.refl _ _⟩
    conv => lhs; unfold L_X5_foxes_66
    rw [if_pos (nI_le (Nat.le_refl _) (by omega))]
    rfl
  | succ m ih =>
    intro i g d h H T K gd hd R R0 e hg
    obtain ⟨g, rfl⟩ : ∃ z, g = z + 1 := ⟨g - 1, by omega⟩
    obtain ⟨h1, k1, k2, k3, k4⟩ := r_go (n := 1) H V.1.1 T K gd (by omega) (by omega) R
    have e1 : nI 1 = 1 := rfl
    rw [e1] at k1
    have H1 := H.fs k2
    have k3' : RY (zT σ) (hI h1 157) (itP (zT σ) (zY σ) (i + 1)) := k3
    have R01 : RY (zT σ) (hI h1 148) (zY σ) := by rw [k2.2.2.2 148 (by decide)]; exact R0
    have hf : fdN (zT σ) (zY σ) k (m + 1) (i + 1) = if itP (zT σ) (zY σ) (i + 1) 8 k = zY σ 8 k then fdN (zT σ) (zY σ) k m (i + 1 + 1) else i + 1 := rfl
    have hc := (rt_c (τ := zT σ) (i := i + 1) hr hr9 (by omega)).2
    have e10 : Int32.toInt64 (10 - nI q) = lN (10 - q) := by
      have : (10 : Int32) - nI q = nI (10 - q) := pk_sub (a := 10) hq
      rw [this, nI_l (by omega)]
    have eA : lN ((10 - q) ^ i) * Int32.toInt64 (10 - nI q) = lN ((10 - q) ^ (i + 1)) := by rw [e10, lN_mul, ← Nat.pow_succ]
    have eB : lN (10 ^ i) * 10 = lN (10 ^ (i + 1)) := by
      have : (10 : Int64) = lN 10 := rfl
      rw [this, lN_mul, ← Nat.pow_succ]
    have step : L_X5_foxes_66 145 (nI k) (nI n) (nI q) x4 kk (g + 1) h (lN ((10 - q) ^ i)) (lN (10 ^ i)) 0 (nI i) = Option.bind (α := Int32) (if itP (zT σ) (zY σ) (i + 1) 8 k ≤ zY σ 8 k then some 0 else some 1) fun q6 => L_X5_foxes_66 145 (nI k) (nI n) (nI q) x4 kk g h1 (lN ((10 - q) ^ (i + 1))) (lN (10 ^ (i + 1))) q6 (nI (i + 1)) := by
      conv => lhs; unfold L_X5_foxes_66
      rw [if_neg (nI_ge (by omega) (by omega)), if_neg (not_not_intro rfl), k1, Option.bind_some, o145_R20 H1, Option.bind_some, al_39, o157_ld H1 (by omega), Option.bind_some, o145_R2 H1, Option.bind_some, o148_ld H1 (by omega), Option.bind_some, (k3'.2.2.2 k (by omega)).2.1, (R01.2.2.2 k (by omega)).2.1, nI_1, eA, eB]
    by_cases he : itP (zT σ) (zY σ) (i + 1) 8 k = zY σ 8 k
    · rw [if_pos he] at hf
      rw [hf, step, if_pos (hc.mpr he), Option.bind_some]
      obtain ⟨h', e', n0, n1, n2⟩ := ih (i + 1) g (d + 1) h1 H1 (T.fs k2 (by decide)) (by
        have := (K.fs k2 (by decide) (by decide)).it 1
        exact this) gd.day (by omega) k3' R01 (by omega) (by omega)
      exact ⟨h', e', n0, n1, k2.trans n2⟩
    · rw [if_neg he] at hf
      rw [hf, step, if_neg (fun z => he (hc.mp z)), Option.bind_some]
      refine ⟨h1, i + 1, by rw [if_neg (by omega)], ?_, k2⟩
      obtain ⟨g, rfl⟩ : ∃ z, g = z + 1 := ⟨g - 1, by omega⟩
      have q10 : ¬ (1 : Int32) = 0 := by decide
      rw [if_neg (show ¬ i + 1 = 0 by omega)]
      conv => lhs; unfold L_X5_foxes_66
      by_cases hle : nI n ≤ nI (i + 1)
      · rw [if_pos hle]
      · rw [if_neg hle, if_pos q10]
/-- the odds: f the day (0: none) -/
def fxP (f q : Nat) (b : Int32) : Int32 := if f = 0 then (if ¬ b = 0 then 1 else 0) else if ¬ b = 0 then nI (10 ^ f / gs 64 (10 ^ f) ((10 - q) ^ f)) else nI ((10 - q) ^ f / gs 64 (10 ^ f) ((10 - q) ^ f))
theorem pow_small : ∀ q, q < 11 → ∀ i, i < 7 → (10 - q) ^ i ≤ 1000000 ∧ 10 ^ i ≤ 1000000 ∧ 1 ≤ 10 ^ i := by decide +kernel
theorem op_foxes (V : VI σ) (a b c e : Int32) : Op (fun h => F_X4_foxes h 0 a b c e) (fun h => F_X5_foxes h 145 a b c e) σ := by
  have v2 := V.1.1.2
  have q10 : ¬ (1 : Int32) = 0 := by decide
  have ngt : ∀ x y : Int32, ¬ x < y ↔ y ≤ x := by
    intro x y
    simp only [Int32.le_iff_toInt_le, Int32.lt_iff_toInt_lt]
    omega
  have eb : ((0 : Int32) ≤ b ∧ b ≤ 6) ↔ (¬ b < 0 ∧ ¬ 6 < b) := by rw [ngt, ngt]
  have ec : ((0 : Int32) ≤ c ∧ c ≤ 10) ↔ (¬ c < 0 ∧ ¬ 10 < c) := by rw [ngt, ngt]
  have ee : ((0 : Int32) ≤ e ∧ e ≤ 1) ↔ (¬ e < 0 ∧ e ≤ 1) := by rw [ngt]
  rcases ixs a (n := tH (zT σ)) (by omega) with hx | ⟨k, hk, rfl⟩
  · refine Op.const (-2) V (fun h H C => ?_) (fun h H R => ?_)
    · unfold F_X4_foxes
      simp only [o0_ck H, c_isH_no H C.1 hx, Option.bind_some, not_true_eq_false, if_false]
    · unfold F_X5_foxes
      simp only [o145_ck H, r_isH_no H V.1.1 R.1 hx, Option.bind_some, not_true_eq_false, if_false]
  · by_cases hb : ¬ b < 0 ∧ ¬ 6 < b
    · by_cases hc : ¬ c < 0 ∧ ¬ 10 < c
      · by_cases he : ¬ e < 0 ∧ e ≤ 1
        · obtain ⟨n, -, hn, rfl⟩ := nrange (lo := 0) (hi := 6) rfl rfl (by omega) (by omega) hb.1 ((ngt _ _).mp hb.2)
          obtain ⟨q, -, hq, rfl⟩ := nrange (lo := 0) (hi := 10) rfl rfl (by omega) (by omega) hc.1 ((ngt _ _).mp hc.2)
          obtain ⟨d, hd, gd⟩ := Gd.of V.1 V.2.1
          obtain ⟨r, hr, er⟩ := V.2.1.2.2.2.2 k (by omega)
          have hr9 : r ≤ 999 := by rw [gd.2.2.1, nI_clamp (by omega)] at hr; omega
          have hfle := fdN_le (zT σ) (zY σ) k n 1
          generalize hF : fdN (zT σ) (zY σ) k n 1 = f at hfle
          refine Op.fore (fxP f q e) V (fun h H C => ?_) (fun h H R => ?_)
          · obtain ⟨h1, k1, k2, k3⟩ := c_copy H yo_27 yo_17 (by decide) V.1.1 C.2.1 V.2.1.2.1
            have H1 := H.fr k2
            obtain ⟨h', l1, l2⟩ := c_fox_loop V hk hn er hr9 n 0 FU d h1 H1 (C.fore V k2) gd (by omega) k3 (by omega) (by unfold FU; omega)
            have e01 : nI (0 + 1) = 1 := rfl
            rw [e01, hF] at l1
            have eD : F_X4_daysToFirstRight h 0 (nI k) (nI n) = some (fdI f, h') := by
              unfold F_X4_daysToFirstRight
              rw [o0_ck H, Option.bind_some, o0_R4 H, Option.bind_some, o0_R3 H, Option.bind_some, k1, Option.bind_some, l1]
            refine ⟨h', ?_, k2.trans l2⟩
            unfold F_X4_foxes
            simp only [o0_ck H, c_isH_yes H V.1.1 C.1 hk, Option.bind_some, q10, not_false_eq_true, if_true, hb.1, hb.2, hc.1, hc.2, he.1, he.2, if_false, eD]
            by_cases hf0 : f = 0
            · have ei : fdI f = -1 := if_pos hf0
              have c1 : F_X4_commonDivisor h' 0 1 = some 1 := cd_ok h' (a := 0) (b := 1) (by omega) (by omega)
              have m1 : F_J9_max_7cf53 h' 1 1 = some 1 := by unfold F_J9_max_7cf53; decide
              have d1 : dvI 1 1 = some 1 := by decide
              have d0 : dvI 0 1 = some 0 := by decide
              simp only [ei, not_true_eq_false, if_false, Option.bind_some, c1, m1, d1, d0]
              unfold fxP
              rw [if_pos hf0]
              split <;> rfl
            · have ei : fdI f = nI f := if_neg hf0
              have hne : ¬ nI f = -1 := nI_m1 (by omega)
              have hf6 : f ≤ 6 := by omega
              have e10 : (10 : Int32) - nI q = nI (10 - q) := pk_sub (a := 10) hq
              obtain ⟨ps1, ps2, ps3⟩ := pow_small q (by omega) f (by omega)
              obtain ⟨-, g1, g2⟩ := gs_tab q (by omega) f (by omega)
              have p1 := power_ok h' (b := 10 - q) (n := f) (by omega) hf6
              have p2 : F_X4_power h' 10 (nI f) = some (nI (10 ^ f)) := power_ok h' (b := 10) (n := f) (by omega) hf6
              have c1 := cd_ok h' (a := (10 - q) ^ f) (b := 10 ^ f) (by omega) (by omega)
              have m1 : F_J9_max_7cf53 h' 1 (nI (gs 64 (10 ^ f) ((10 - q) ^ f))) = some (nI (gs 64 (10 ^ f) ((10 - q) ^ f))) := by
                unfold F_J9_max_7cf53
                have z1 : (1 : Int32) = nI 1 := rfl
                rw [z1]
                by_cases hg1 : gs 64 (10 ^ f) ((10 - q) ^ f) = 1
                · rw [hg1, if_neg (nI_nlt (Nat.le_refl _) (by omega))]
                · rw [if_pos (nI_lt (by omega) (by omega))]
              have gne : ¬ nI (gs 64 (10 ^ f) ((10 - q) ^ f)) = 0 := nI_ne0 (by omega) (by omega)
              simp only [ei, hne, not_false_eq_true, if_true, Option.bind_some, e10, p1, p2, c1, m1, dvI, if_neg gne, pk_div (show 10 ^ f < 2 ^ 31 by omega) (show 0 < gs 64 (10 ^ f) ((10 - q) ^ f) by omega) (show gs 64 (10 ^ f) ((10 - q) ^ f) < 2 ^ 31 by omega), pk_div (show (10 - q) ^ f < 2 ^ 31 by omega) (show 0 < gs 64 (10 ^ f) ((10 - q) ^ f) by omega) (show gs 64 (10 ^ f) ((10 - q) ^ f) < 2 ^ 31 by omega)]
              unfold fxP
              rw [if_neg hf0]
              split <;> rfl
          · obtain ⟨h1, a1, a2, a3⟩ := r_asTold (y := zY σ) H V.1.1 R.1 V.2.1.2.2.2.1
            have H1 := H.fs a2
            have R1 : RY (zT σ) (hI h1 148) (zY σ) := by rw [a2.2.2.2 148 (by decide)]; exact R.2.1
            obtain ⟨h2, b1, b2, b3⟩ := r_layAside H1 V.1.1 R1
            have H2 := H1.fs b2
            have T2 : RT h2 (zT σ) := (R.1.fs a2 (by decide)).fs b2 (by decide)
            have R2 : RY (zT σ) (hI h2 148) (zY σ) := by rw [b2.2.2.2 148 (by decide)]; exact R1
            have key := fun (kk : AH → Int64 → Int64 → Int32 → Int32 → Option (Int32 × AH)) => r_fox_loop (kk := kk) (x4 := e) V hk hn hq er hr9 n 0 FU d h2 H2 T2 (a3.fs b2 (by decide) (by decide)) gd (by omega) b3 R2 (by omega) (by unfold FU; omega)
            obtain ⟨h', e', n0, n1, n2⟩ := key (fun h7 y8 y9 y10 _ => Option.bind (α := Int64) (if y10 = 0 then some 0 else some y8) fun q12 => L_X5_foxes_155 h7 145 (nI k) (nI n) (nI q) e q12 y9 y10 (fun y13 _ => if ¬ e = 0 then Option.bind (dvL y9 y13) fun v15 => some (Int64.toInt32 v15, h7) else Option.bind (dvL q12 y13) fun v16 => some (Int64.toInt32 v16, h7)) FU q12 y9)
            have e01 : (0 + 1) = 1 := rfl
            have p0 : lN ((10 - q) ^ 0) = 1 := rfl
            have p1 : lN (10 ^ 0) = 1 := rfl
            rw [e01, hF] at n0 n1
            rw [p0, p1, nI_0] at n1
            refine ⟨h', ?_, ((a2.wide (by decide)).trans (b2.wide (by decide))).trans (n2.wide (by decide))⟩
            unfold F_X5_foxes
            simp only [o145_ck H, r_isH_yes H V.1.1 R.1 hk, Option.bind_some, q10, not_false_eq_true, if_true, in_ok h (nI n) 0 6 0 6 (by decide) (by decide), if_pos (eb.mpr hb), in_ok h (nI q) 0 10 0 10 (by decide) (by decide), if_pos (ec.mpr hc), r_two, if_pos (ee.mpr he), if_false, a1, b1]
            rw [n1]
            by_cases hf0 : f = 0
            · rw [if_pos hf0] at n0 ⊢
              subst n0
              obtain ⟨ps1, ps2, ps3⟩ := pow_small q (by omega) e' (by omega)
              have hg : gt FU 0 (10 ^ e') = some (10 ^ e') := by
                unfold FU gt
                rw [if_neg (by omega)]
                unfold gt
                rw [if_pos (Nat.zero_mod _)]
              have L := gl_loop (h := h') (o0 := 145) (x1 := nI k) (x2 := nI e') (x3 := nI q) (x4 := e) (x9 := 0) (x5 := 0) (x7 := lN (10 ^ e')) (kk := fun y13 _ => if ¬ e = 0 then Option.bind (dvL (lN (10 ^ e')) y13) fun v15 => some (Int64.toInt32 v15, h') else Option.bind (dvL 0 y13) fun v16 => some (Int64.toInt32 v16, h')) (kr := fun y13 => if ¬ e = 0 then Option.bind (dvL (lN (10 ^ e')) y13) fun v15 => some (Int64.toInt32 v15, h') else Option.bind (dvL 0 y13) fun v16 => some (Int64.toInt32 v16, h')) (fun _ _ => rfl) FU 0 (10 ^ e') (10 ^ e') (by omega) (by omega) hg
              have z0 : lN 0 = 0 := rfl
              rw [z0] at L
              rw [if_pos rfl, Option.bind_some, L]
              have hne : ¬ lN (10 ^ e') = 0 := fun z => by
                have := (pk_lEQ (a := 10 ^ e') (b := 0) (by omega) (by omega)).mp z
                omega
              have d1 : dvL (lN (10 ^ e')) (lN (10 ^ e')) = some (lN 1) := by
                unfold dvL
                rw [if_neg hne, pk_lDiv (by omega) (by omega) (by omega), Nat.div_self (by omega)]
              have d0 : dvL 0 (lN (10 ^ e')) = some (lN 0) := by
                unfold dvL
                have z0 : (0 : Int64) = lN 0 := rfl
                rw [if_neg hne, z0, pk_lDiv (by omega) (by omega) (by omega), Nat.zero_div]
              show (if ¬ e = 0 then Option.bind (dvL (lN (10 ^ e')) (lN (10 ^ e'))) fun v15 => some (Int64.toInt32 v15, h') else Option.bind (dvL 0 (lN (10 ^ e'))) fun v16 => some (Int64.toInt32 v16, h')) = some (fxP f q e, h')
              rw [d1, d0, Option.bind_some, Option.bind_some, lN_i, lN_i]
              unfold fxP
              rw [if_pos hf0]
              split <;> rfl
            · rw [if_neg hf0] at n0 ⊢
              subst n0
              have hf6 : e' ≤ 6 := by omega
              obtain ⟨ps1, ps2, ps3⟩ := pow_small q (by omega) e' (by omega)
              obtain ⟨g0, g1, g2⟩ := gs_tab q (by omega) e' (by omega)
              have hg : gt FU ((10 - q) ^ e') (10 ^ e') = some (gs 64 (10 ^ e') ((10 - q) ^ e')) := by
                have := gt_more _ _ _ _ g0 960
                exact this
              have L := gl_loop (h := h') (o0 := 145) (x1 := nI k) (x2 := nI n) (x3 := nI q) (x4 := e) (x9 := 1) (x5 := lN ((10 - q) ^ e')) (x7 := lN (10 ^ e')) (kk := fun y13 _ => if ¬ e = 0 then Option.bind (dvL (lN (10 ^ e')) y13) fun v15 => some (Int64.toInt32 v15, h') else Option.bind (dvL (lN ((10 - q) ^ e')) y13) fun v16 => some (Int64.toInt32 v16, h')) (kr := fun y13 => if ¬ e = 0 then Option.bind (dvL (lN (10 ^ e')) y13) fun v15 => some (Int64.toInt32 v15, h') else Option.bind (dvL (lN ((10 - q) ^ e')) y13) fun v16 => some (Int64.toInt32 v16, h')) (fun _ _ => rfl) FU ((10 - q) ^ e') (10 ^ e') _ (by omega) (by omega) hg
              rw [if_neg q10, Option.bind_some, L]
              have hne : ¬ lN (gs 64 (10 ^ e') ((10 - q) ^ e')) = 0 := fun z => by
                have := (pk_lEQ (a := gs 64 (10 ^ e') ((10 - q) ^ e')) (b := 0) (by omega) (by omega)).mp z
                omega
              show (if ¬ e = 0 then Option.bind (dvL (lN (10 ^ e')) (lN (gs 64 (10 ^ e') ((10 - q) ^ e')))) fun v15 => some (Int64.toInt32 v15, h') else Option.bind (dvL (lN ((10 - q) ^ e')) (lN (gs 64 (10 ^ e') ((10 - q) ^ e')))) fun v16 => some (Int64.toInt32 v16, h')) = some (fxP e' q e, h')
              unfold dvL
              rw [if_neg hne, if_neg hne, Option.bind_some, Option.bind_some, pk_lDiv (by omega) (by omega) (by omega), pk_lDiv (by omega) (by omega) (by omega), lN_i, lN_i]
              unfold fxP
              rw [if_neg hf0]
              split <;> rfl
        · refine Op.const (-3) V (fun h H C => ?_) (fun h H R => ?_)
          · unfold F_X4_foxes
            by_cases h0 : e < 0
            · simp only [o0_ck H, c_isH_yes H V.1.1 C.1 hk, Option.bind_some, q10, not_false_eq_true, if_true, hb.1, hb.2, hc.1, hc.2, if_false, h0]
            · have h1 : ¬ e ≤ 1 := fun z => he ⟨h0, z⟩
              simp only [o0_ck H, c_isH_yes H V.1.1 C.1 hk, Option.bind_some, q10, not_false_eq_true, if_true, hb.1, hb.2, hc.1, hc.2, if_false, h0, h1]
          · unfold F_X5_foxes
            simp only [o145_ck H, r_isH_yes H V.1.1 R.1 hk, Option.bind_some, q10, not_false_eq_true, if_true, in_ok h b 0 6 0 6 (by decide) (by decide), if_pos (eb.mpr hb), in_ok h c 0 10 0 10 (by decide) (by decide), if_pos (ec.mpr hc), r_two, if_neg (fun z => he (ee.mp z)), if_false, not_true_eq_false]
      · refine Op.const (-3) V (fun h H C => ?_) (fun h H R => ?_)
        · unfold F_X4_foxes
          by_cases h0 : c < 0
          · simp only [o0_ck H, c_isH_yes H V.1.1 C.1 hk, Option.bind_some, q10, not_false_eq_true, if_true, hb.1, hb.2, if_false, h0]
          · have h1 : 10 < c := by
              by_cases h2 : 10 < c
              · exact h2
              · exact absurd ⟨h0, h2⟩ hc
            simp only [o0_ck H, c_isH_yes H V.1.1 C.1 hk, Option.bind_some, q10, not_false_eq_true, if_true, hb.1, hb.2, if_false, h0, h1]
        · unfold F_X5_foxes
          simp only [o145_ck H, r_isH_yes H V.1.1 R.1 hk, Option.bind_some, q10, not_false_eq_true, if_true, in_ok h b 0 6 0 6 (by decide) (by decide), if_pos (eb.mpr hb), in_ok h c 0 10 0 10 (by decide) (by decide), if_neg (fun z => hc (ec.mp z)), if_false]
    · refine Op.const (-3) V (fun h H C => ?_) (fun h H R => ?_)
      · unfold F_X4_foxes
        by_cases h0 : b < 0
        · simp only [o0_ck H, c_isH_yes H V.1.1 C.1 hk, Option.bind_some, q10, not_false_eq_true, if_true, h0]
        · have h1 : 6 < b := by
            by_cases h2 : 6 < b
            · exact h2
            · exact absurd ⟨h0, h2⟩ hb
          simp only [o0_ck H, c_isH_yes H V.1.1 C.1 hk, Option.bind_some, q10, not_false_eq_true, if_true, if_false, h0, h1]
      · unfold F_X5_foxes
        simp only [o145_ck H, r_isH_yes H V.1.1 R.1 hk, Option.bind_some, q10, not_false_eq_true, if_true, in_ok h b 0 6 0 6 (by decide) (by decide), if_neg (fun z => hb (eb.mp z))]
end FOX
