/-! lays, rights, ask, warmth -/
theorem dy_inv {τ : TT} (V : VT τ) (z : YT) : ∀ n, n ≤ tH τ → (∀ p, p < 8 → dyP τ z n 3 p = -1 ∨ ∃ j, j < n ∧ dyP τ z n 3 p = nI j ∧ plP τ (dyP τ z j) j = nI p) ∧ ∀ j, j < n → plP τ (dyP τ z j) j = -1 ∨ ∃ p, p < tP τ ∧ plP τ (dyP τ z j) j = nI p ∧ dyP τ z n 3 p = nI j := by
  have v1 := V.1
  have v2 := V.2
  intro n
  induction n with
  | zero =>
    intro _
    refine ⟨fun p _ => Or.inl ?_, fun j hj => absurd hj (Nat.not_lt_zero j)⟩
    unfold dyP
    rw [upR_ne (by decide), upR_eq]
  | succ n ih =>
    intro hn
    obtain ⟨iE, iF⟩ := ih (by omega)
    have e : dyP τ z (n + 1) = hnP τ (dyP τ z n) n := rfl
    rcases plP_place V (dyP τ z n) n with hz | ⟨p, hp, hz, hz3⟩
    · have e2 : dyP τ z (n + 1) = dyP τ z n := by rw [e]; unfold hnP; rw [if_pos hz]
      rw [e2]
      refine ⟨fun q hq => ?_, fun j hj => ?_⟩
      · rcases iE q hq with h | ⟨j, h1, h2, h3⟩
        · exact Or.inl h
        · exact Or.inr ⟨j, by omega, h2, h3⟩
      · by_cases hjn : j = n
        · subst hjn; exact Or.inl hz
        · exact iF j (by omega)
    · have hne : ¬ nI p = -1 := nI_m1 (by omega)
      have e2 : dyP τ z (n + 1) = egP τ (dyP τ z n) n p := by rw [e]; unfold hnP; rw [if_neg (by rw [hz]; exact hne), hz, nI_clamp (by omega)]
      have e3 : ∀ q, dyP τ z (n + 1) 3 q = if q = p then nI n else dyP τ z n 3 q := by
        intro q
        rw [e2]
        simp [egP, up2]
      refine ⟨fun q hq => ?_, fun j hj => ?_⟩
      · rw [e3 q]
        by_cases hqp : q = p
        · subst hqp
          rw [if_pos rfl]
          exact Or.inr ⟨n, by omega, rfl, hz⟩
        · rw [if_neg hqp]
          rcases iE q hq with h | ⟨j, h1, h2, h3⟩
          · exact Or.inl h
          · exact Or.inr ⟨j, by omega, h2, h3⟩
      · by_cases hjn : j = n
        · subst hjn
          exact Or.inr ⟨p, hp, hz, by rw [e3 p, if_pos rfl]⟩
        · rcases iF j (by omega) with h | ⟨q, h1, h2, h3⟩
          · exact Or.inl h
          · refine Or.inr ⟨q, h1, h2, ?_⟩
            have hqp : q ≠ p := by
              intro z
              subst z
              rw [hz3] at h3
              exact nI_m1 (by omega) h3.symm
            rw [e3 q, if_neg hqp]
            exact h3
theorem day_3 (τ : TT) (z : YT) (p : Nat) : dayP τ z 3 p = dyP τ z (tH τ) 3 p := by
  unfold dayP
  rw [up2_ne (by omega), up2_ne (by omega)]
/-- an egg of hen k is at p just if she laid there -/
theorem egg_iff {τ : TT} (V : VT τ) (z : YT) {k p : Nat} (hk : k < tH τ) (hp : p < 8) : dayP τ z 3 p = nI k ↔ laP τ z k = nI p := by
  have v1 := V.1
  have v2 := V.2
  obtain ⟨iE, iF⟩ := dy_inv V z (tH τ) (Nat.le_refl _)
  have el : laP τ z k = plP τ (dyP τ z k) k := if_pos hk
  rw [day_3, el]
  constructor
  · intro h
    rcases iE p hp with e | ⟨j, h1, h2, h3⟩
    · rw [e] at h
      exact absurd h.symm (nI_m1 (by omega))
    · have : j = k := (nI_eq (by omega) (by omega)).mp (h2.symm.trans h)
      subst this
      exact h3
  · intro h
    rcases iF k hk with e | ⟨q, h1, h2, h3⟩
    · rw [e] at h
      exact absurd h.symm (nI_m1 (by omega))
    · have : q = p := (nI_eq (by omega) (by omega)).mp (h2.symm.trans h)
      subst this
      exact h3
theorem poe_la {h : AH} {o : Nat} {τ : TT} {z : YT} (H : Lo h) (ho : YO o) (V : VT τ) (C : CY τ (Yc h o) (dayP τ z)) {k : Nat} (hk : k < tH τ) : F_X3_placeOfEgg h o (nI k) = some (laP τ z k) := by
  have v1 := V.1
  rcases c_poe H ho C (nI k) with ⟨e, hn⟩ | ⟨p, hp, h3, e⟩
  · rw [e]
    have el : laP τ z k = plP τ (dyP τ z k) k := if_pos hk
    rcases plP_place V (dyP τ z k) k with hz | ⟨p, hp, hz, -⟩
    · rw [el, hz]
    · exfalso
      exact hn p (by omega) ((egg_iff V z hk (by omega)).mpr (el.trans hz))
  · rw [e, (egg_iff V z hk hp).mp h3]
section LAYS
variable {σ : SG}
/-- asTold, layAside, go: n DAYS on the reference's side -/
theorem r_fore {h : AH} (H : Lo h) (V : VI σ) (R : RI h σ) {n : Nat} (hn : n ≤ 60) : ∃ h1 h2 h3, F_X5_asTold h 145 = some h1 ∧ F_X5_layAside h1 145 = some h2 ∧ F_X5_go h2 145 (nI n) = some h3 ∧ Lo h3 ∧ Fs h h3 [154, 155, 156, 157] ∧ RY (zT σ) (hI h3 157) (itP (zT σ) (zY σ) n) ∧ RY (zT σ) (hI h3 148) (zY σ) ∧ RT h3 (zT σ) ∧ (0 < n → ∀ j, j < 5 → hI h3 156 j = laP (zT σ) (itP (zT σ) (zY σ) (n - 1)) j) := by
  obtain ⟨d, hd, gd⟩ := Gd.of V.1 V.2.1
  obtain ⟨h1, a1, a2, a3⟩ := r_asTold (y := zY σ) H V.1.1 R.1 V.2.1.2.2.2.1
  have H1 := H.fs a2
  have R1 : RY (zT σ) (hI h1 148) (zY σ) := by rw [a2.2.2.2 148 (by decide)]; exact R.2.1
  obtain ⟨h2, b1, b2, b3⟩ := r_layAside H1 V.1.1 R1
  have H2 := H1.fs b2
  have T2 : RT h2 (zT σ) := (R.1.fs a2 (by decide)).fs b2 (by decide)
  obtain ⟨h3, c1, c2, c3, c4⟩ := r_go (n := n) H2 V.1.1 T2 (a3.fs b2 (by decide) (by decide)) gd (by omega) (by omega) b3
  refine ⟨h1, h2, h3, a1, b1, c1, H2.fs c2, ((a2.wide (by decide)).trans (b2.wide (by decide))).trans (c2.wide (by decide)), c3, ?_, T2.fs c2 (by decide), c4⟩
  rw [c2.2.2.2 148 (by decide), b2.2.2.2 148 (by decide)]
  exact R1
theorem c_fore {h : AH} (H : Lo h) (V : VI σ) (C : CI h σ) {n : Nat} (hn : n ≤ 60) : ∃ h1, F_X4_foretell h 0 (nI n) = some h1 ∧ Lo h1 ∧ Fr h h1 27 37 ∧ CY (zT σ) (Yc h1 27) (itP (zT σ) (zY σ) n) ∧ CI h1 σ := by
  obtain ⟨d, hd, gd⟩ := Gd.of V.1 V.2.1
  obtain ⟨h1, k1, k2, k3⟩ := c_foretell H V.1.1 C.1 C.2.1 gd (by omega) (show n ≤ 100 by omega)
  exact ⟨h1, k1, H.fr k2, k2, k3, C.fore V k2⟩
theorem nrange {x : Int32} {lo hi : Nat} {L Hh : Int32} (eL : L = nI lo) (eH : Hh = nI hi) (hl : lo < 1000) (hh : hi < 1000) (h1 : ¬ x < L) (h2 : x ≤ Hh) : ∃ n, lo ≤ n ∧ n ≤ hi ∧ x = nI n := by
  subst eL
  subst eH
  rw [Int32.lt_iff_toInt_lt, nI_toInt (by omega)] at h1
  rw [Int32.le_iff_toInt_le, nI_toInt (by omega)] at h2
  obtain ⟨j, hj, e⟩ := nI_of (x := x) (by rw [Int32.lt_iff_toInt_lt]; have : (0 : Int32).toInt = 0 := by decide
                                          omega)
  subst e
  rw [nI_toInt hj] at h1 h2
  exact ⟨j, by omega, by omega, rfl⟩
theorem op_lays (V : VI σ) (a b : Int32) : Op (fun h => F_X4_lays h 0 a b) (fun h => F_X5_lays h 145 a b) σ := by
  have v2 := V.1.1.2
  have q10 : ¬ (1 : Int32) = 0 := by decide
  rcases ixs a (n := tH (zT σ)) (by omega) with hx | ⟨k, hk, rfl⟩
  · refine Op.const (-2) V (fun h H C => ?_) (fun h H R => ?_)
    · unfold F_X4_lays
      simp only [o0_ck H, c_isH_no H C.1 hx, Option.bind_some, not_true_eq_false, if_false]
    · unfold F_X5_lays
      simp only [o145_ck H, r_isH_no H V.1.1 R.1 hx, Option.bind_some, not_true_eq_false, if_false]
  · have hk5 : k < 5 := by omega
    have eb : ((1 : Int32) ≤ b ∧ b ≤ 30) ↔ (¬ b < 1 ∧ b ≤ 30) := by
      simp only [Int32.le_iff_toInt_le, Int32.lt_iff_toInt_lt]
      omega
    by_cases hb : ¬ b < 1 ∧ b ≤ 30
    · obtain ⟨n, hn1, hn2, rfl⟩ := nrange (lo := 1) (hi := 30) rfl rfl (by omega) (by omega) hb.1 hb.2
      obtain ⟨m, rfl⟩ : ∃ m, n = m + 1 := ⟨n - 1, by omega⟩
      refine Op.fore (laP (zT σ) (itP (zT σ) (zY σ) m) k) V (fun h H C => ?_) (fun h H R => ?_)
      · obtain ⟨h1, k1, H1, k2, k3, k4⟩ := c_fore H V C (show m + 1 ≤ 60 by omega)
        refine ⟨h1, ?_, k2⟩
        unfold F_X4_lays
        simp only [o0_ck H, c_isH_yes H V.1.1 C.1 hk, Option.bind_some, q10, not_false_eq_true, if_true, hb.1, hb.2, if_false, k1, o0_R4 H1]
        rw [poe_la H1 yo_27 V.1.1 k3 hk, Option.bind_some]
      · obtain ⟨h1, h2, h3, a1, b1, c1, H3, f3, -, -, -, la⟩ := r_fore H V R (show m + 1 ≤ 60 by omega)
        refine ⟨h3, ?_, f3⟩
        unfold F_X5_lays
        simp only [o145_ck H, r_isH_yes H V.1.1 R.1 hk, Option.bind_some, q10, not_false_eq_true, if_true, in_ok h (nI (m + 1)) 1 30 1 30 (by decide) (by decide), if_pos (eb.mpr hb), a1, b1, c1, o145_R19 H3, o156_ld H3 hk5]
        rw [la (by omega) k hk5]
        rfl
    · refine Op.const (-3) V (fun h H C => ?_) (fun h H R => ?_)
      · unfold F_X4_lays
        by_cases h0 : b < 1
        · simp only [o0_ck H, c_isH_yes H V.1.1 C.1 hk, Option.bind_some, q10, not_false_eq_true, if_true, h0]
        · have h4 : ¬ b ≤ 30 := fun z => hb ⟨h0, z⟩
          simp only [o0_ck H, c_isH_yes H V.1.1 C.1 hk, Option.bind_some, q10, not_false_eq_true, if_true, h0, h4, if_false]
      · unfold F_X5_lays
        simp only [o145_ck H, r_isH_yes H V.1.1 R.1 hk, Option.bind_some, q10, not_false_eq_true, if_true, in_ok h b 1 30 1 30 (by decide) (by decide), if_neg (fun z => hb (eb.mp z)), not_true_eq_false, if_false]
theorem c_rf {h : AH} {w : YT} (H : Lo h) (C : CI h σ) (C2 : CY (zT σ) (Yc h 27) w) {k : Nat} (hk : k < 5) : F_X4_rightsForetold h 0 (nI k) = some (w 8 k - zY σ 8 k) := by
  have e1 : hI h (27 + 8) k = w 8 k := (C2.2.2.2.2 k hk).2.1
  have e2 : hI h (17 + 8) k = zY σ 8 k := (C.2.1.2.2.2.2 k hk).2.1
  unfold F_X4_rightsForetold
  simp only [o0_ck H, o0_R4 H, o0_R3 H, y_R7 H yo_27, y_R7 H yo_17, y_ld8 H yo_27 hk, y_ld8 H yo_17 hk, Option.bind_some, e1, e2]
theorem op_rights (V : VI σ) (a b : Int32) : Op (fun h => F_X4_rights h 0 a b) (fun h => F_X5_rights h 145 a b) σ := by
  have v2 := V.1.1.2
  have q10 : ¬ (1 : Int32) = 0 := by decide
  rcases ixs a (n := tH (zT σ)) (by omega) with hx | ⟨k, hk, rfl⟩
  · refine Op.const (-2) V (fun h H C => ?_) (fun h H R => ?_)
    · unfold F_X4_rights
      simp only [o0_ck H, c_isH_no H C.1 hx, Option.bind_some, not_true_eq_false, if_false]
    · unfold F_X5_rights
      simp only [o145_ck H, r_isH_no H V.1.1 R.1 hx, Option.bind_some, not_true_eq_false, if_false]
  · have hk5 : k < 5 := by omega
    have eb : ((0 : Int32) ≤ b ∧ b ≤ 30) ↔ (¬ b < 0 ∧ b ≤ 30) := by
      simp only [Int32.le_iff_toInt_le, Int32.lt_iff_toInt_lt]
      omega
    by_cases hb : ¬ b < 0 ∧ b ≤ 30
    · obtain ⟨n, -, hn2, rfl⟩ := nrange (lo := 0) (hi := 30) rfl rfl (by omega) (by omega) hb.1 hb.2
      refine Op.fore (itP (zT σ) (zY σ) n 8 k - zY σ 8 k) V (fun h H C => ?_) (fun h H R => ?_)
      · obtain ⟨h1, k1, H1, k2, k3, k4⟩ := c_fore H V C (show n ≤ 60 by omega)
        refine ⟨h1, ?_, k2⟩
        unfold F_X4_rights
        simp only [o0_ck H, c_isH_yes H V.1.1 C.1 hk, Option.bind_some, q10, not_false_eq_true, if_true, hb.1, hb.2, if_false, k1]
        rw [c_rf H1 k4 k3 hk5, Option.bind_some]
      · obtain ⟨h1, h2, h3, a1, b1, c1, H3, f3, r3, r4, -, la⟩ := r_fore H V R (show n ≤ 60 by omega)
        refine ⟨h3, ?_, f3⟩
        unfold F_X5_rights
        simp only [o145_ck H, r_isH_yes H V.1.1 R.1 hk, Option.bind_some, q10, not_false_eq_true, if_true, in_ok h (nI n) 0 30 0 30 (by decide) (by decide), if_pos (eb.mpr hb), a1, b1, c1, o145_R20 H3, o145_R2 H3, al_39, o157_ld H3 (show 39 + k < 52 by omega), o148_ld H3 (show 39 + k < 52 by omega), (r3.2.2.2 k hk5).2.1, (r4.2.2.2 k hk5).2.1]
    · refine Op.const (-3) V (fun h H C => ?_) (fun h H R => ?_)
      · unfold F_X4_rights
        by_cases h0 : b < 0
        · simp only [o0_ck H, c_isH_yes H V.1.1 C.1 hk, Option.bind_some, q10, not_false_eq_true, if_true, h0]
        · have h4 : ¬ b ≤ 30 := fun z => hb ⟨h0, z⟩
          simp only [o0_ck H, c_isH_yes H V.1.1 C.1 hk, Option.bind_some, q10, not_false_eq_true, if_true, h0, h4, if_false]
      · unfold F_X5_rights
        simp only [o145_ck H, r_isH_yes H V.1.1 R.1 hk, Option.bind_some, q10, not_false_eq_true, if_true, in_ok h b 0 30 0 30 (by decide) (by decide), if_neg (fun z => hb (eb.mp z)), not_true_eq_false, if_false]
def akP (f : Nat → Int32) : Nat → Int32 × Int32
  | 0 => (-1, -1)
  | n + 1 => if f n ≤ (akP f n).2 then akP f n else (nI n, f n)
theorem c_ask_loop {h : AH} {w : YT} {x1 x2 : Int32} {β : Type} {kk : Int32 → Int32 → Int32 → Option β} (V : VI σ) (H : Lo h) (C : CI h σ) (C2 : CY (zT σ) (Yc h 27) w) : ∀ (m i g : Nat), i + m = tH (zT σ) → m < g → L_X4_ask_35 h 0 x1 x2 kk g (akP (fun k => w 8 k - zY σ 8 k) i).1 (akP (fun k => w 8 k - zY σ 8 k) i).2 (nI i) = kk (akP (fun k => w 8 k - zY σ 8 k) (tH (zT σ))).1 (akP (fun k => w 8 k - zY σ 8 k) (tH (zT σ))).2 (nI (tH (zT σ))) := by
  have v2 := V.1.1.2
  intro m
  induction m with
  | zero =>
    intro i g e hg
    obtain ⟨g, rfl⟩ : ∃ z, g = z + 1 := ⟨g - 1, by omega⟩
    have hi : i = tH (zT σ) := by omega
    subst hi
    conv => lhs; unfold L_X4_ask_35
    rw [o0_R1 H, Option.bind_some, t_gI H to_3, Option.bind_some, C.1.2.1, if_pos (nI_le (Nat.le_refl _) (by omega))]
  | succ m ih =>
    intro i g e hg
    obtain ⟨g, rfl⟩ : ∃ z, g = z + 1 := ⟨g - 1, by omega⟩
    have go := ih (i + 1) g (by omega) (by omega)
    have ha : akP (fun k => w 8 k - zY σ 8 k) (i + 1) = if w 8 i - zY σ 8 i ≤ (akP (fun k => w 8 k - zY σ 8 k) i).2 then akP (fun k => w 8 k - zY σ 8 k) i else (nI i, w 8 i - zY σ 8 i) := rfl
    conv => lhs; unfold L_X4_ask_35
    rw [o0_R1 H, Option.bind_some, t_gI H to_3, Option.bind_some, C.1.2.1, if_neg (nI_ge (by omega) (by omega)), c_rf H C C2 (by omega), Option.bind_some, nI_1]
    by_cases hc : w 8 i - zY σ 8 i ≤ (akP (fun k => w 8 k - zY σ 8 k) i).2
    · rw [if_pos hc, Option.bind_some]
      rw [ha, if_pos hc] at go
      exact go
    · rw [if_neg hc, Option.bind_some, Option.bind_some]
      rw [ha, if_neg hc] at go
      exact go
theorem r_ask_loop {h : AH} {w : YT} {x1 x2 : Int32} {β : Type} {kk : Int32 → Int32 → Int32 → Option β} (V : VI σ) (H : Lo h) (T : RT h (zT σ)) (R : RY (zT σ) (hI h 148) (zY σ)) (R2 : RY (zT σ) (hI h 157) w) : ∀ (m i g : Nat), i + m = tH (zT σ) → m < g → L_X5_ask_43 h 145 x1 x2 kk g (akP (fun k => w 8 k - zY σ 8 k) i).1 (akP (fun k => w 8 k - zY σ 8 k) i).2 (nI i) = kk (akP (fun k => w 8 k - zY σ 8 k) (tH (zT σ))).1 (akP (fun k => w 8 k - zY σ 8 k) (tH (zT σ))).2 (nI (tH (zT σ))) := by
  have v2 := V.1.1.2
  intro m
  induction m with
  | zero =>
    intro i g e hg
    obtain ⟨g, rfl⟩ : ∃ z, g = z + 1 := ⟨g - 1, by omega⟩
    have hi : i = tH (zT σ) := by omega
    subst hi
    conv => lhs; unfold L_X5_ask_43
    rw [o145_R0 H, Option.bind_some, o146_l25 H, Option.bind_some, T.2.1, if_pos (nI_le (Nat.le_refl _) (by omega))]
  | succ m ih =>
    intro i g e hg
    obtain ⟨g, rfl⟩ : ∃ z, g = z + 1 := ⟨g - 1, by omega⟩
    have go := ih (i + 1) g (by omega) (by omega)
    have ha : akP (fun k => w 8 k - zY σ 8 k) (i + 1) = if w 8 i - zY σ 8 i ≤ (akP (fun k => w 8 k - zY σ 8 k) i).2 then akP (fun k => w 8 k - zY σ 8 k) i else (nI i, w 8 i - zY σ 8 i) := rfl
    conv => lhs; unfold L_X5_ask_43
    rw [o145_R0 H, Option.bind_some, o146_l25 H, Option.bind_some, T.2.1, if_neg (nI_ge (by omega) (by omega)), o145_R20 H, Option.bind_some, al_39, o157_ld H (by omega), Option.bind_some, o145_R2 H, Option.bind_some, o148_ld H (by omega), Option.bind_some, (R.2.2.2 i (by omega)).2.1, (R2.2.2.2 i (by omega)).2.1, nI_1]
    by_cases hc : w 8 i - zY σ 8 i ≤ (akP (fun k => w 8 k - zY σ 8 k) i).2
    · rw [if_pos hc, Option.bind_some, if_pos hc, Option.bind_some]
      rw [ha, if_pos hc] at go
      exact go
    · rw [if_neg hc, Option.bind_some, if_neg hc, Option.bind_some]
      rw [ha, if_neg hc] at go
      exact go
theorem op_ask (V : VI σ) (a b : Int32) : Op (fun h => F_X4_ask h 0 a b) (fun h => F_X5_ask h 145 a b) σ := by
  have v2 := V.1.1.2
  have q10 : ¬ (1 : Int32) = 0 := by decide
  have ea : ((0 : Int32) ≤ a ∧ a ≤ 30) ↔ (¬ a < 0 ∧ a ≤ 30) := by
    simp only [Int32.le_iff_toInt_le, Int32.lt_iff_toInt_lt]
    omega
  have eb : ((0 : Int32) ≤ b ∧ b ≤ 1) ↔ (¬ b < 0 ∧ b ≤ 1) := by
    simp only [Int32.le_iff_toInt_le, Int32.lt_iff_toInt_lt]
    omega
  have ngt : ∀ x y : Int32, ¬ x < y ↔ y ≤ x := by
    intro x y
    simp only [Int32.le_iff_toInt_le, Int32.lt_iff_toInt_lt]
    omega
  by_cases ha : ¬ a < 0 ∧ a ≤ 30
  · have h30 : ¬ 30 < a := (ngt 30 a).mpr ha.2
    by_cases hb : ¬ b < 0 ∧ b ≤ 1
    · obtain ⟨n, -, hn2, rfl⟩ := nrange (lo := 0) (hi := 30) rfl rfl (by omega) (by omega) ha.1 ha.2
      refine Op.fore (if ¬ b = 0 then (akP (fun k => itP (zT σ) (zY σ) n 8 k - zY σ 8 k) (tH (zT σ))).2 else (akP (fun k => itP (zT σ) (zY σ) n 8 k - zY σ 8 k) (tH (zT σ))).1) V (fun h H C => ?_) (fun h H R => ?_)
      · obtain ⟨h1, k1, H1, k2, k3, k4⟩ := c_fore H V C (show n ≤ 60 by omega)
        refine ⟨h1, ?_, k2⟩
        have L := c_ask_loop (x1 := nI n) (x2 := b) (kk := fun y6 y7 _ => if ¬ b = 0 then some (y7, h1) else some (y6, h1)) V H1 k4 k3 (tH (zT σ)) 0 FU (by omega) (by unfold FU; omega)
        have z0 : akP (fun k => itP (zT σ) (zY σ) n 8 k - zY σ 8 k) 0 = (-1, -1) := rfl
        rw [z0, nI_0] at L
        unfold F_X4_ask
        simp only [o0_ck H, Option.bind_some, ha.1, h30, hb.1, hb.2, if_false, if_true, k1]
        rw [L]
        split <;> rfl
      · obtain ⟨h1, h2, h3, a1, b1, c1, H3, f3, r3, r4, t3, la⟩ := r_fore H V R (show n ≤ 60 by omega)
        refine ⟨h3, ?_, f3⟩
        have L := r_ask_loop (x1 := nI n) (x2 := b) (kk := fun y9 y10 _ => if ¬ b = 0 then some (y10, h3) else some (y9, h3)) V H3 t3 r4 r3 (tH (zT σ)) 0 FU (by omega) (by unfold FU; omega)
        have z0 : akP (fun k => itP (zT σ) (zY σ) n 8 k - zY σ 8 k) 0 = (-1, -1) := rfl
        rw [z0, nI_0] at L
        unfold F_X5_ask
        simp only [o145_ck H, Option.bind_some, in_ok h (nI n) 0 30 0 30 (by decide) (by decide), if_pos (ea.mpr ha), q10, if_false, r_two, if_pos (eb.mpr hb), not_false_eq_true, if_true, a1, b1, c1]
        rw [L]
        split <;> rfl
    · refine Op.const (-3) V (fun h H C => ?_) (fun h H R => ?_)
      · unfold F_X4_ask
        by_cases h0 : b < 0
        · simp only [o0_ck H, Option.bind_some, ha.1, h30, h0, if_true, if_false]
        · have h4 : ¬ b ≤ 1 := fun z => hb ⟨h0, z⟩
          simp only [o0_ck H, Option.bind_some, ha.1, h30, h0, h4, if_false]
      · unfold F_X5_ask
        simp only [o145_ck H, Option.bind_some, in_ok h a 0 30 0 30 (by decide) (by decide), if_pos (ea.mpr ha), q10, if_false, r_two, if_neg (fun z => hb (eb.mp z)), not_true_eq_false]
  · refine Op.const (-3) V (fun h H C => ?_) (fun h H R => ?_)
    · unfold F_X4_ask
      by_cases h0 : a < 0
      · simp only [o0_ck H, Option.bind_some, h0, if_true]
      · have h4 : 30 < a := by
          by_cases h5 : 30 < a
          · exact h5
          · exact absurd ⟨h0, (ngt 30 a).mp h5⟩ ha
        simp only [o0_ck H, Option.bind_some, h0, h4, if_false, if_true]
    · unfold F_X5_ask
      simp only [o145_ck H, Option.bind_some, in_ok h a 0 30 0 30 (by decide) (by decide), if_neg (fun z => ha (ea.mp z)), if_true]
end LAYS
