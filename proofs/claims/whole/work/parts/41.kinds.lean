/-! kinds, habits: what was seen -/
/-- all that is seen of hen k on day n agrees with v -/
def agB (D : Nat → Nat → Int32) (k n : Nat) (v : Int32) : Nat → Bool
  | 0 => true
  | i + 1 => agB D k n v i && (!(decide (D i 0 = nI k)) || (!(decide (D i 1 = nI n)) || decide (D i 2 = v)))
def ldP (D : Nat → Nat → Int32) (k : Nat) : Nat → Nat
  | 0 => 0
  | i + 1 => if D i 0 = nI k then max (ldP D k i) (D i 1).toNatClampNeg else ldP D k i
/-- all n days agree -/
def wsB (τ : TT) (D : Nat → Nat → Int32) (N k : Nat) (z : YT) : Nat → Bool
  | 0 => true
  | n + 1 => wsB τ D N k z n && agB D k (n + 1) (laP τ (itP τ z n) k) N
theorem agB_false {D : Nat → Nat → Int32} {k n : Nat} {v : Int32} {i : Nat} (h : agB D k n v i = false) : ∀ N, i ≤ N → agB D k n v N = false := by
  intro N
  induction N with
  | zero => intro hi; have : i = 0 := by omega
            subst this; exact h
  | succ N ih =>
    intro hi
    by_cases hN : i = N + 1
    · subst hN; exact h
    · unfold agB
      rw [ih (by omega)]
      rfl
theorem wsB_false {τ : TT} {D : Nat → Nat → Int32} {N k : Nat} {z : YT} {i : Nat} (h : wsB τ D N k z i = false) : ∀ M, i ≤ M → wsB τ D N k z M = false := by
  intro M
  induction M with
  | zero => intro hi; have : i = 0 := by omega
            subst this; exact h
  | succ M ih =>
    intro hi
    by_cases hM : i = M + 1
    · subst hM; exact h
    · unfold wsB
      rw [ih (by omega)]
      rfl
/-- beyond the last day on which she was seen nothing can disagree -/
theorem agB_late {D : Nat → Nat → Int32} {k n : Nat} {v : Int32} : ∀ N, (∀ i, i < N → ∃ d, d ≤ 14 ∧ D i 1 = nI d) → ldP D k N < n → n ≤ 14 → agB D k n v N = true := by
  intro N
  induction N with
  | zero => intro _ _ _; rfl
  | succ N ih =>
    intro hd hl hn
    obtain ⟨d, hd1, hd2⟩ := hd N (by omega)
    unfold ldP at hl
    unfold agB
    by_cases hk : D N 0 = nI k
    · rw [if_pos hk, hd2, nI_clamp (by omega)] at hl
      rw [ih (fun i hi => hd i (by omega)) (by omega) hn]
      have : ¬ D N 1 = nI n := fun z => by
        have := (nI_eq (by omega) (by omega)).mp (hd2.symm.trans z)
        omega
      simp [this]
    · rw [if_neg hk] at hl
      rw [ih (fun i hi => hd i (by omega)) hl hn]
      simp [hk]
theorem wsB_late {τ : TT} {D : Nat → Nat → Int32} {N k : Nat} {z : YT} (hd : ∀ i, i < N → ∃ d, d ≤ 14 ∧ D i 1 = nI d) {l : Nat} (hl : ldP D k N ≤ l) : ∀ M, l ≤ M → M ≤ 14 → wsB τ D N k z M = wsB τ D N k z l := by
  intro M
  induction M with
  | zero => intro h _; have : l = 0 := by omega
            subst this; rfl
  | succ M ih =>
    intro h1 h2
    by_cases hM : l = M + 1
    · subst hM; rfl
    · have := ih (by omega) (by omega)
      have e : wsB τ D N k z (M + 1) = (wsB τ D N k z M && agB D k (M + 1) (laP τ (itP τ z M) k) N) := rfl
      rw [e, this, agB_late N hd (by omega) (by omega), Bool.and_true]
theorem ld_le {D : Nat → Nat → Int32} {k : Nat} : ∀ N, (∀ i, i < N → ∃ d, d ≤ 14 ∧ D i 1 = nI d) → ldP D k N ≤ 14 := by
  intro N
  induction N with
  | zero => intro _; exact Nat.zero_le _
  | succ N ih =>
    intro hd
    have := ih (fun i hi => hd i (by omega))
    obtain ⟨d, hd1, hd2⟩ := hd N (by omega)
    unfold ldP
    split
    · rw [hd2, nI_clamp (by omega)]; omega
    · exact this
section SEENK
variable {σ : SG}
theorem c_ld_loop {h : AH} {N : Nat} {D : Nat → Nat → Int32} {k : Nat} {β : Type} {kk : Int32 → Int32 → Option β} (H : Lo h) (S : SeenC h N D) (hN : N ≤ 6) (hd : ∀ i, i < N → ∃ d, d ≤ 14 ∧ D i 1 = nI d) : ∀ (m i g : Nat), i + m = N → m < g → L_X0_lastDayOf_4 h 40 (nI k) kk g (nI (ldP D k i)) (nI i) = kk (nI (ldP D k N)) (nI N) := by
  intro m
  induction m with
  | zero =>
    intro i g e hg
    obtain ⟨g, rfl⟩ : ∃ z, g = z + 1 := ⟨g - 1, by omega⟩
    have hi : i = N := by omega
    subst hi
    conv => lhs; unfold L_X0_lastDayOf_4
    rw [o40_gI H, Option.bind_some, S.1, if_pos (nI_le (Nat.le_refl _) (by omega))]
  | succ m ih =>
    intro i g e hg
    obtain ⟨g, rfl⟩ : ∃ z, g = z + 1 := ⟨g - 1, by omega⟩
    have go := ih (i + 1) g (by omega) (by omega)
    obtain ⟨s0, s1, s2⟩ := S.2 i (by omega)
    obtain ⟨d, hd1, hd2⟩ := hd i (by omega)
    have hl : ldP D k (i + 1) = if D i 0 = nI k then max (ldP D k i) (D i 1).toNatClampNeg else ldP D k i := rfl
    have hl14 := ld_le (D := D) (k := k) i (fun j hj => hd j (by omega))
    conv => lhs; unfold L_X0_lastDayOf_4
    rw [o40_gI H, Option.bind_some, S.1, if_neg (nI_ge (by omega) (by omega)), o40_R0 H, Option.bind_some, o41_ld H (by omega), Option.bind_some, s0, nI_1]
    by_cases hk : D i 0 = nI k
    · rw [if_neg (not_not_intro hk), o40_R1 H, Option.bind_some, o42_ld H (by omega), Option.bind_some, s1, hd2]
      have em : F_J9_max_7cf53 h (nI (ldP D k i)) (nI d) = some (nI (max (ldP D k i) d)) := by
        unfold F_J9_max_7cf53
        by_cases hlt : ldP D k i < d
        · rw [if_pos (nI_lt hlt (by omega)), Nat.max_eq_right (by omega)]
        · rw [if_neg (nI_nlt (by omega) (by omega)), Nat.max_eq_left (by omega)]
      rw [em, Option.bind_some, Option.bind_some]
      rw [hl, if_pos hk, hd2, nI_clamp (by omega)] at go
      exact go
    · rw [if_pos hk, Option.bind_some]
      rw [hl, if_neg hk] at go
      exact go
theorem c_ld {h : AH} {N : Nat} {D : Nat → Nat → Int32} {k : Nat} (H : Lo h) (S : SeenC h N D) (hN : N ≤ 6) (hd : ∀ i, i < N → ∃ d, d ≤ 14 ∧ D i 1 = nI d) : F_X0_lastDayOf h 40 (nI k) = some (nI (ldP D k N)) := by
  unfold F_X0_lastDayOf
  rw [o40_ck H, Option.bind_some]
  exact c_ld_loop H S hN hd N 0 FU (by omega) (by unfold FU; omega)
theorem c_ag_loop {h : AH} {N : Nat} {D : Nat → Nat → Int32} {k n : Nat} {v : Int32} (H : Lo h) (S : SeenC h N D) (hN : N ≤ 6) : ∀ (m i g : Nat), i + m = N → m < g → agB D k n v i = true → L_X0_agree_3 h 40 (nI k) (nI n) v (fun _ => some 1) g (nI i) = some (bI (agB D k n v N)) := by
  intro m
  induction m with
  | zero =>
    intro i g e hg ht
    obtain ⟨g, rfl⟩ : ∃ z, g = z + 1 := ⟨g - 1, by omega⟩
    have hi : i = N := by omega
    subst hi
    conv => lhs; unfold L_X0_agree_3
    rw [o40_gI H, Option.bind_some, S.1, if_pos (nI_le (Nat.le_refl _) (by omega)), ht]
    rfl
  | succ m ih =>
    intro i g e hg ht
    obtain ⟨g, rfl⟩ : ∃ z, g = z + 1 := ⟨g - 1, by omega⟩
    obtain ⟨s0, s1, s2⟩ := S.2 i (by omega)
    have ha : agB D k n v (i + 1) = (agB D k n v i && (!(decide (D i 0 = nI k)) || (!(decide (D i 1 = nI n)) || decide (D i 2 = v)))) := rfl
    conv => lhs; unfold L_X0_agree_3
    rw [o40_gI H, Option.bind_some, S.1, if_neg (nI_ge (by omega) (by omega)), o40_R0 H, Option.bind_some, o41_ld H (by omega), Option.bind_some, s0, nI_1]
    by_cases hk : D i 0 = nI k
    · rw [if_neg (not_not_intro hk), o40_R1 H, Option.bind_some, o42_ld H (by omega), Option.bind_some, s1]
      by_cases hn : D i 1 = nI n
      · rw [if_neg (not_not_intro hn), o40_R2 H, Option.bind_some, o43_ld H (by omega), Option.bind_some, s2]
        by_cases hv : D i 2 = v
        · rw [if_pos hv]
          exact ih (i + 1) g (by omega) (by omega) (by rw [ha, ht]; simp [hv])
        · rw [if_neg hv]
          have : agB D k n v (i + 1) = false := by rw [ha, ht]; simp [hk, hn, hv]
          rw [agB_false this N (by omega)]
          rfl
      · rw [if_pos hn]
        exact ih (i + 1) g (by omega) (by omega) (by rw [ha, ht]; simp [hn])
    · rw [if_pos hk]
      exact ih (i + 1) g (by omega) (by omega) (by rw [ha, ht]; simp [hk])
theorem c_ag {h : AH} {N : Nat} {D : Nat → Nat → Int32} {k n : Nat} {v : Int32} (H : Lo h) (S : SeenC h N D) (hN : N ≤ 6) : F_X0_agree h 40 (nI k) (nI n) v = some (bI (agB D k n v N)) := by
  unfold F_X0_agree
  rw [o40_ck H, Option.bind_some]
  exact c_ag_loop H S hN N 0 FU (by omega) (by unfold FU; omega) rfl
theorem seen_days (V : VI σ) : ∀ i, i < zN σ → ∃ d, d ≤ 14 ∧ zD σ i 1 = nI d := fun i hi => by
  obtain ⟨-, d, -, h2, h3⟩ := V.2.2.2.2.1.2 i hi
  exact ⟨d, h2, h3⟩
theorem c_ws_loop (V : VI σ) {k l : Nat} {x2 x3 : Int32} (hk : k < tH (zT σ)) (hl : l ≤ 14) {z : YT} : ∀ (m i g d : Nat) (h : AH), Lo h → CI h σ → Gd (zT σ) (itP (zT σ) z i) d → d + m ≤ 2000 → CY (zT σ) (Yc h 27) (itP (zT σ) z i) → wsB (zT σ) (zD σ) (zN σ) k z i = true → i + m = l → m < g → ∃ h', L_X4_wouldBeSeen_44 0 (nI k) x2 x3 (nI l) (fun h12 _ => some (1, h12)) g h (nI (i + 1)) = some (bI (wsB (zT σ) (zD σ) (zN σ) k z l), h') ∧ Fr h h' 27 37 := by
  have v2 := V.1.1.2
  intro m
  induction m with
  | zero =>
    intro i g d h H C gd hd C2 ht e hg
    obtain ⟨g, rfl⟩ : ∃ z, g = z + 1 := ⟨g - 1, by omega⟩
    have hi : i = l := by omega
    subst hi
    refine ⟨h, ?_, Fr.refl _ _ _⟩
    conv => lhs; unfold L_X4_wouldBeSeen_44
    rw [if_pos (nI_lt (by omega) (by omega)), ht]
    rfl
  | succ m ih =>
    intro i g d h H C gd hd C2 ht e hg
    obtain ⟨g, rfl⟩ : ∃ z, g = z + 1 := ⟨g - 1, by omega⟩
    obtain ⟨h1, k1, k2, k3⟩ := c_pass H yo_27 to_3 V.1.1 C2 C.1 (d := d) (by omega) gd.2.2.1
    have H1 := H.fr k2
    have C1 := C.fore V k2
    have hw : wsB (zT σ) (zD σ) (zN σ) k z (i + 1) = (wsB (zT σ) (zD σ) (zN σ) k z i && agB (zD σ) k (i + 1) (laP (zT σ) (itP (zT σ) z i) k) (zN σ)) := rfl
    have step : L_X4_wouldBeSeen_44 0 (nI k) x2 x3 (nI l) (fun h12 _ => some (1, h12)) (g + 1) h (nI (i + 1)) = if ¬ bI (agB (zD σ) k (i + 1) (laP (zT σ) (itP (zT σ) z i) k) (zN σ)) = 0 then L_X4_wouldBeSeen_44 0 (nI k) x2 x3 (nI l) (fun h12 _ => some (1, h12)) g h1 (nI (i + 1 + 1)) else some (0, h1) := by
      conv => lhs; unfold L_X4_wouldBeSeen_44
      rw [if_neg (nI_nlt (by omega) (by omega)), o0_R4 H, Option.bind_some, o0_R1 H, Option.bind_some, k1, Option.bind_some, o0_R9 H1, Option.bind_some, o0_R4 H1, Option.bind_some, poe_la H1 yo_27 V.1.1 k3 hk, Option.bind_some, c_ag H1 C1.2.2.2.2.1 V.2.2.2.2.1.1, Option.bind_some, nI_1]
    rw [step]
    cases ha : agB (zD σ) k (i + 1) (laP (zT σ) (itP (zT σ) z i) k) (zN σ) with
    | true =>
      rw [if_pos (by decide)]
      obtain ⟨h', n1, n2⟩ := ih (i + 1) g (d + 1) h1 H1 C1 gd.day (by omega) k3 (by rw [hw, ht, ha]; rfl) (by omega) (by omega)
      exact ⟨h', n1, k2.trans n2⟩
    | false =>
      rw [if_neg (by decide)]
      have hf : wsB (zT σ) (zD σ) (zN σ) k z (i + 1) = false := by rw [hw, ha]; simp
      rw [wsB_false hf l (by omega)]
      exact ⟨h1, rfl, k2⟩
/-- hen k taken as of kind c and habit w -/
def asP (y : YT) (k : Nat) (c w : Int32) : YT := up2 (up2 y 5 k c) 6 k w
theorem Gd.as {τ : TT} {y : YT} {d : Nat} (g : Gd τ y d) (k : Nat) (c : Int32) {w : Nat} (hw : w ≤ 9) : Gd τ (asP y k c (nI w)) d := by
  obtain ⟨g1, g2, g3, g4⟩ := g
  unfold asP
  refine ⟨fun q hq => ⟨by rw [up2_ne (by omega), up2_ne (by omega)]; exact (g1 q hq).1, (g1 q hq).2⟩, fun j hj => ?_, ?_, ?_⟩
  · by_cases hjk : j = k
    · exact ⟨w, hw, up2_eq' rfl hjk⟩
    · rw [up2_ne (by omega), up2_ne (by omega)]; exact g2 j hj
  · rw [up2_ne (by omega), up2_ne (by omega)]; exact g3
  · rw [up2_ne (by omega), up2_ne (by omega)]; exact g4
theorem c_wbs (V : VI σ) {h : AH} (H : Lo h) (C : CI h σ) {k w : Nat} (c : Int32) (hk : k < tH (zT σ)) (hw : w ≤ 9) : ∃ h', F_X4_wouldBeSeen h 0 (nI k) c (nI w) = some (bI (wsB (zT σ) (zD σ) (zN σ) k (asP (zY σ) k c (nI w)) 14), h') ∧ Fr h h' 27 37 := by
  have v2 := V.1.1.2
  have hk5 : k < 5 := by omega
  obtain ⟨d, hd, gd⟩ := Gd.of V.1 V.2.1
  have sd := seen_days V
  have hl14 := ld_le (D := zD σ) (k := k) (zN σ) sd
  obtain ⟨h1, k1, k2, k3⟩ := c_copy H yo_27 yo_17 (by decide) V.1.1 C.2.1 V.2.1.2.1
  have H1 := H.fr k2
  have F2 : Fr h1 (sI (sI h1 (27 + 5) k c) (27 + 6) k (nI w)) 27 37 := ((Fr.refl h1 _ _).sA (by omega) (by omega)).sA (by omega) (by omega)
  have H2 : Lo (sI h1 (27 + 5) k c) := H1.sA _ _
  have H3 := H1.fr F2
  have F3 : Fr h (sI (sI h1 (27 + 5) k c) (27 + 6) k (nI w)) 27 37 := k2.trans F2
  have C3 : CY (zT σ) (Yc (sI (sI h1 (27 + 5) k c) (27 + 6) k (nI w)) 27) (asP (zY σ) k c (nI w)) := by
    rw [Yc_sI, Yc_sI]
    exact (k3.up 5 k _ (by decide) (by decide)).up 6 k _ (by decide) (by decide)
  obtain ⟨h', l1, l2⟩ := c_ws_loop (x2 := c) (x3 := nI w) V hk hl14 (z := asP (zY σ) k c (nI w)) (ldP (zD σ) k (zN σ)) 0 FU d _ H3 (C.fore V F3) (gd.as k c hw) (by omega) C3 rfl (by omega) (by unfold FU; omega)
  refine ⟨h', ?_, F3.trans l2⟩
  have e1 : nI (0 + 1) = 1 := rfl
  rw [e1, ← wsB_late sd (Nat.le_refl _) 14 hl14 (Nat.le_refl _)] at l1
  unfold F_X4_wouldBeSeen
  rw [o0_ck H, Option.bind_some, o0_R9 H, Option.bind_some, c_ld H C.2.2.2.2.1 V.2.2.2.2.1.1 sd, Option.bind_some, o0_R4 H, Option.bind_some, o0_R3 H, Option.bind_some, k1, Option.bind_some, o0_R4 H1, Option.bind_some, y_R4 H1 yo_27, Option.bind_some, y_st5 H1 yo_27 hk5, Option.bind_some, o0_R4 H2, Option.bind_some, y_R5 H2 yo_27, Option.bind_some, y_st6 H2 yo_27 hk5, Option.bind_some]
  exact l1
theorem r_ag_loop {h : AH} {N : Nat} {D : Nat → Nat → Int32} {k n : Nat} {v : Int32} {b : Bool} {β : Type} {kk : Int32 → Int32 → Option β} (H : Lo h) (S : SeenR h N D) (hN : N ≤ 6) (hk5 : k < 5) (hv : hI h 156 k = v) : ∀ (m i g : Nat), i + m = N → m < g → L_X5_comes_22 h 145 (nI k) (nI n) kk g (bI (b && agB D k n v i)) (nI i) = kk (bI (b && agB D k n v N)) (nI N) := by
  have q10 : ¬ (1 : Int32) = 0 := by decide
  intro m
  induction m with
  | zero =>
    intro i g e hg
    obtain ⟨g, rfl⟩ : ∃ z, g = z + 1 := ⟨g - 1, by omega⟩
    have hi : i = N := by omega
    subst hi
    conv => lhs; unfold L_X5_comes_22
    rw [o145_gI H, Option.bind_some, S.1, if_pos (nI_le (Nat.le_refl _) (by omega))]
  | succ m ih =>
    intro i g e hg
    obtain ⟨g, rfl⟩ : ∃ z, g = z + 1 := ⟨g - 1, by omega⟩
    have go := ih (i + 1) g (by omega) (by omega)
    obtain ⟨s0, s1, s2⟩ := S.2 i (by omega)
    have ha : agB D k n v (i + 1) = (agB D k n v i && (!(decide (D i 0 = nI k)) || (!(decide (D i 1 = nI n)) || decide (D i 2 = v)))) := rfl
    have b1 : 3 * i < 18 := by omega
    have b2 : 3 * i + 1 < 18 := by omega
    have b3 : 3 * i + 2 < 18 := by omega
    have q4 : (if ¬ D i 0 = nI k then some (0 : Int32) else if ¬ D i 1 = nI n then some 0 else some 1) = some (bI (decide (D i 0 = nI k) && decide (D i 1 = nI n))) := by
      by_cases h1 : D i 0 = nI k
      · by_cases h2 : D i 1 = nI n
        · simp [h1, h2, bI]
        · simp [h1, h2, bI]
      · simp [h1, bI]
    have q7 : (if bI (b && agB D k n v i) = 0 then some (0 : Int32) else if bI (decide (D i 0 = nI k) && decide (D i 1 = nI n)) = 0 then some 1 else if ¬ v = D i 2 then some 0 else some 1) = some (bI (b && agB D k n v (i + 1))) := by
      rw [ha]
      cases b <;> cases hA : agB D k n v i <;> by_cases h1 : D i 0 = nI k <;> by_cases h2 : D i 1 = nI n <;> by_cases h3 : D i 2 = v <;> simp [bI, h1, h2, h3, eq_comm]
      all_goals (try (intro z; exact absurd z.symm h3))
      all_goals (try exact absurd rfl h3)
    conv => lhs; unfold L_X5_comes_22
    simp only [o145_gI H, Option.bind_some, S.1, if_neg (nI_ge (show i < N by omega) (show N < 2 ^ 31 by omega)), o145_R9 H, ml_3, ar_1, ar_2, o153_ld H b1, o153_ld H b2, o153_ld H b3, s0, s1, s2, o145_R19 H, o156_ld H hk5, hv, q4, q7]
    exact go
theorem r_ws_loop {kk : AH → Int32 → Int32 → Option (Int32 × AH)} (V : VI σ) {k : Nat} (hk : k < tH (zT σ)) {z : YT} : ∀ (m i g d : Nat) (h : AH), Lo h → RT h (zT σ) → SeenR h (zN σ) (zD σ) → RK (zT σ) h (itP (zT σ) z i) → Gd (zT σ) (itP (zT σ) z i) d → d + m ≤ 1100 → RY (zT σ) (hI h 157) (itP (zT σ) z i) → i + m = 14 → m < g → ∃ h', L_X5_comes_8 145 (nI k) kk g h (bI (wsB (zT σ) (zD σ) (zN σ) k z i)) (nI (i + 1)) = kk h' (bI (wsB (zT σ) (zD σ) (zN σ) k z 14)) (nI 15) ∧ Fs h h' [157, 156] := by
  have v2 := V.1.1.2
  intro m
  induction m with
  | zero =>
    intro i g d h H T S K gd hd R e hg
    obtain ⟨g, rfl⟩ : ∃ z, g = z + 1 := ⟨g - 1, by omega⟩
    have hi : i = 14 := by omega
    subst hi
    refine ⟨h, ?_, Fs.refl _ _⟩
    conv => lhs; unfold L_X5_comes_8
    rw [if_pos (by decide)]
  | succ m ih =>
    intro i g d h H T S K gd hd R e hg
    obtain ⟨g, rfl⟩ : ∃ z, g = z + 1 := ⟨g - 1, by omega⟩
    have h15 : ¬ (15 : Int32) ≤ nI (i + 1) := nI_ge (b := 15) (by omega) (by omega)
    obtain ⟨h1, k1, k2, k3, k4⟩ := r_go (n := 1) H V.1.1 T K gd (by omega) (by omega) R
    have e1 : nI 1 = 1 := rfl
    rw [e1] at k1
    have H1 := H.fs k2
    have S1 : SeenR h1 (zN σ) (zD σ) := by
      unfold SeenR at S ⊢
      rw [k2.2.2.2 145 (by decide), k2.2.2.2 153 (by decide)]
      exact S
    have la : hI h1 156 k = laP (zT σ) (itP (zT σ) z i) k := k4 (by omega) k (by omega)
    have hN6 := V.2.2.2.2.1.1
    have hw : wsB (zT σ) (zD σ) (zN σ) k z (i + 1) = (wsB (zT σ) (zD σ) (zN σ) k z i && agB (zD σ) k (i + 1) (laP (zT σ) (itP (zT σ) z i) k) (zN σ)) := rfl
    have L := r_ag_loop (β := Int32 × AH) (b := wsB (zT σ) (zD σ) (zN σ) k z i) (kk := fun y12 _ => L_X5_comes_8 145 (nI k) kk g h1 y12 (nI (i + 1 + 1))) H1 S1 V.2.2.2.2.1.1 (show k < 5 by omega) la (n := i + 1) (zN σ) 0 FU (by omega) (by unfold FU; omega)
    have z0 : agB (zD σ) k (i + 1) (laP (zT σ) (itP (zT σ) z i) k) 0 = true := rfl
    rw [z0, Bool.and_true, nI_0, ← hw] at L
    obtain ⟨h', n1, n2⟩ := ih (i + 1) g (d + 1) h1 H1 (T.fs k2 (by decide)) S1 (by
      have := (K.fs k2 (by decide) (by decide)).it 1
      exact this) gd.day (by omega) k3 (by omega) (by omega)
    refine ⟨h', ?_, k2.trans n2⟩
    conv => lhs; unfold L_X5_comes_8
    rw [if_neg h15, k1, Option.bind_some, nI_1, L]
    exact n1
theorem r_comes (V : VI σ) {h : AH} (H : Lo h) (T : RT h (zT σ)) (S : SeenR h (zN σ) (zD σ)) {z : YT} {d k : Nat} (hk : k < tH (zT σ)) (K : RK (zT σ) h z) (gd : Gd (zT σ) z d) (hd : d ≤ 999) (R : RY (zT σ) (hI h 148) z) : ∃ h', F_X5_comes h 145 (nI k) = some (bI (wsB (zT σ) (zD σ) (zN σ) k z 14), h') ∧ Fs h h' [156, 157] := by
  obtain ⟨h1, k1, k2, k3⟩ := r_layAside H V.1.1 R
  have H1 := H.fs k2
  have S1 : SeenR h1 (zN σ) (zD σ) := by
    unfold SeenR at S ⊢
    rw [k2.2.2.2 145 (by decide), k2.2.2.2 153 (by decide)]
    exact S
  obtain ⟨h', n1, n2⟩ := r_ws_loop (kk := fun h14 y15 _ => Option.bind (bz y15) fun v17 => some (v17, h14)) V hk (z := z) 14 0 FU d h1 H1 (T.fs k2 (by decide)) S1 (K.fs k2 (by decide) (by decide)) gd (by omega) k3 (by omega) (by unfold FU; omega)
  refine ⟨h', ?_, (k2.wide (by decide)).trans (n2.wide (by decide))⟩
  have w0 : bI (wsB (zT σ) (zD σ) (zN σ) k z 0) = 1 := rfl
  have e1 : nI (0 + 1) = 1 := rfl
  rw [w0, e1] at n1
  unfold F_X5_comes
  rw [o145_ck H, Option.bind_some, k1, Option.bind_some, n1]
  cases wsB (zT σ) (zD σ) (zN σ) k z 14 <;> rfl
theorem RY.as {τ : TT} {t : Nat → Int32} {y : YT} (R : RY τ t y) (k : Nat) (c w : Int32) : RY τ t (asP y k c w) := by
  obtain ⟨⟨r1, r2, r3, r4, r5⟩, r6, r7, r8⟩ := R
  have e : ∀ a b, a ≠ 5 → a ≠ 6 → asP y k c w a b = y a b := fun a b h5 h6 => by unfold asP; rw [up2_ne (by omega), up2_ne (by omega)]
  refine ⟨⟨?_, ?_, ?_, ?_, ?_⟩, fun q hq => ?_, fun q hq => ?_, fun q hq => ?_⟩
  · rw [e 0 9 (by decide) (by decide)]; exact r1
  · rw [e 0 10 (by decide) (by decide)]; exact r2
  · rw [e 0 11 (by decide) (by decide)]; exact r3
  · rw [e 0 12 (by decide) (by decide)]; exact r4
  · rw [e 0 13 (by decide) (by decide)]; exact r5
  · rw [e 1 q (by decide) (by decide), e 2 q (by decide) (by decide)]; exact r6 q hq
  · rw [e 3 q (by decide) (by decide), e 4 q (by decide) (by decide)]; exact r7 q hq
  · rw [e 7 q (by decide) (by decide), e 8 q (by decide) (by decide), e 9 q (by decide) (by decide)]; exact r8 q hq
/-- bits of those numbers below n for which p holds -/
def btP (p : Nat → Bool) : Nat → Int32
  | 0 => 0
  | n + 1 => if p n then btP p n ||| (1 <<< (nI n &&& 31)) else btP p n
theorem bI_t : ¬ bI true = 0 := by decide
theorem bI_f : bI false = 0 := rfl
theorem c_kinds_loop (V : VI σ) {k w : Nat} (hk : k < tH (zT σ)) (hw : w ≤ 9) (ew : zY σ 6 k = nI w) : ∀ (m i g : Nat) (h : AH), Lo h → CI h σ → i + m = 4 → m < g → ∃ h', L_X4_kinds_15 0 (nI k) (fun h6 y7 _ => some (y7, h6)) g h (btP (fun c => wsB (zT σ) (zD σ) (zN σ) k (asP (zY σ) k (nI c) (nI w)) 14) i) (nI i) = some (btP (fun c => wsB (zT σ) (zD σ) (zN σ) k (asP (zY σ) k (nI c) (nI w)) 14) 4, h') ∧ Fr h h' 27 37 := by
  have v2 := V.1.1.2
  intro m
  induction m with
  | zero =>
    intro i g h H C e hg
    obtain ⟨g, rfl⟩ : ∃ z, g = z + 1 := ⟨g - 1, by omega⟩
    have hi : i = 4 := by omega
    subst hi
    refine ⟨h, ?_, Fr.refl _ _ _⟩
    conv => lhs; unfold L_X4_kinds_15
    rw [if_pos (by decide)]
  | succ m ih =>
    intro i g h H C e hg
    obtain ⟨g, rfl⟩ : ∃ z, g = z + 1 := ⟨g - 1, by omega⟩
    have h3 : ¬ (3 : Int32) < nI i := nI_nlt (a := 3) (by omega) (by omega)
    obtain ⟨h1, k1, k2⟩ := c_wbs V H C (nI i) hk hw
    have e6 : hI h (17 + 6) k = nI w := ((C.2.1.2.2.2.1 k hk).2).trans ew
    obtain ⟨h', n1, n2⟩ := ih (i + 1) g h1 (H.fr k2) (C.fore V k2) (by omega) (by omega)
    refine ⟨h', ?_, k2.trans n2⟩
    have hb : btP (fun c => wsB (zT σ) (zD σ) (zN σ) k (asP (zY σ) k (nI c) (nI w)) 14) (i + 1) = if wsB (zT σ) (zD σ) (zN σ) k (asP (zY σ) k (nI i) (nI w)) 14 then btP (fun c => wsB (zT σ) (zD σ) (zN σ) k (asP (zY σ) k (nI c) (nI w)) 14) i ||| (1 <<< (nI i &&& 31)) else btP (fun c => wsB (zT σ) (zD σ) (zN σ) k (asP (zY σ) k (nI c) (nI w)) 14) i := rfl
    rw [hb] at n1
    conv => lhs; unfold L_X4_kinds_15
    rw [if_neg h3, o0_R3 H, Option.bind_some, y_R5 H yo_17, Option.bind_some, y_ld6 H yo_17 (by omega), Option.bind_some, e6, k1, Option.bind_some, nI_1]
    cases hc : wsB (zT σ) (zD σ) (zN σ) k (asP (zY σ) k (nI i) (nI w)) 14 with
    | true =>
      rw [hc] at n1
      rw [if_neg bI_t, Option.bind_some]
      exact n1
    | false =>
      rw [hc] at n1
      rw [if_pos bI_f, Option.bind_some]
      exact n1
theorem r_kinds_loop (V : VI σ) {k w d : Nat} (hk : k < tH (zT σ)) (hw : w ≤ 9) (ew : zY σ 6 k = nI w) (gd : Gd (zT σ) (zY σ) d) (hd : d ≤ 999) : ∀ (m i g : Nat) (h : AH), Lo h → RI h σ → (∀ j, j < tH (zT σ) → (j ≠ k → hI h 154 j = zY σ 5 j) ∧ hI h 155 j = zY σ 6 j) → i + m = 4 → m < g → ∃ h', L_X5_kinds_19 145 (nI k) (fun h5 y6 _ => some (y6, h5)) g h (btP (fun c => wsB (zT σ) (zD σ) (zN σ) k (asP (zY σ) k (nI c) (nI w)) 14) i) (nI i) = some (btP (fun c => wsB (zT σ) (zD σ) (zN σ) k (asP (zY σ) k (nI c) (nI w)) 14) 4, h') ∧ Fs h h' [154, 155, 156, 157] := by
  have v2 := V.1.1.2
  intro m
  induction m with
  | zero =>
    intro i g h H R K e hg
    obtain ⟨g, rfl⟩ : ∃ z, g = z + 1 := ⟨g - 1, by omega⟩
    have hi : i = 4 := by omega
    subst hi
    refine ⟨h, ?_, Fs.refl _ _⟩
    conv => lhs; unfold L_X5_kinds_19
    rw [if_pos (by decide)]
  | succ m ih =>
    intro i g h H R K e hg
    obtain ⟨g, rfl⟩ : ∃ z, g = z + 1 := ⟨g - 1, by omega⟩
    have h3 : ¬ (4 : Int32) ≤ nI i := nI_ge (b := 4) (by omega) (by omega)
    have F0 : Fs h (sI h 154 k (nI i)) [154, 155, 156, 157] := (Fs.refl h _).sA (by decide)
    have H0 := H.fs F0
    have R0 := R.fore F0 (by decide)
    have K0 : RK (zT σ) (sI h 154 k (nI i)) (asP (zY σ) k (nI i) (nI w)) := by
      intro j hj
      unfold asP
      rw [sI_ob _ 154 _ 155 _ (by decide), up2_ne (by omega)]
      by_cases hjk : j = k
      · subst hjk
        rw [sI_at, up2_eq, up2_eq, (K j hj).2, ew]
        exact ⟨rfl, rfl⟩
      · rw [sI_ne _ _ _ _ _ hjk, up2_ne (by omega), up2_ne (by omega), up2_ne (by omega)]
        exact ⟨(K j hj).1 hjk, (K j hj).2⟩
    obtain ⟨h1, k1, k2⟩ := r_comes V H0 R0.1 R0.2.2.2.2.1 hk K0 (gd.as k (nI i) hw) hd (R0.2.1.as k (nI i) (nI w))
    have F1 : Fs h h1 [154, 155, 156, 157] := F0.trans (k2.wide (by decide))
    obtain ⟨h', n1, n2⟩ := ih (i + 1) g h1 (H.fs F1) (R.fore F1 (by decide)) (fun j hj => by
      rw [k2.2.2.2 154 (by decide), k2.2.2.2 155 (by decide), sI_ob _ 154 _ 155 _ (by decide)]
      exact ⟨fun hjk => by rw [sI_ne _ _ _ _ _ hjk]; exact (K j hj).1 hjk, (K j hj).2⟩) (by omega) (by omega)
    refine ⟨h', ?_, F1.trans n2⟩
    have hb : btP (fun c => wsB (zT σ) (zD σ) (zN σ) k (asP (zY σ) k (nI c) (nI w)) 14) (i + 1) = if wsB (zT σ) (zD σ) (zN σ) k (asP (zY σ) k (nI i) (nI w)) 14 then btP (fun c => wsB (zT σ) (zD σ) (zN σ) k (asP (zY σ) k (nI c) (nI w)) 14) i ||| (1 <<< (nI i &&& 31)) else btP (fun c => wsB (zT σ) (zD σ) (zN σ) k (asP (zY σ) k (nI c) (nI w)) 14) i := rfl
    rw [hb] at n1
    conv => lhs; unfold L_X5_kinds_19
    rw [if_neg h3, o145_R17 H, Option.bind_some, o154_st H (by omega), Option.bind_some, k1, Option.bind_some, nI_1]
    cases hc : wsB (zT σ) (zD σ) (zN σ) k (asP (zY σ) k (nI i) (nI w)) 14 with
    | true =>
      rw [hc] at n1
      rw [if_neg bI_t, Option.bind_some]
      exact n1
    | false =>
      rw [hc] at n1
      rw [if_pos bI_f, Option.bind_some, Int32.or_zero]
      exact n1
theorem op_kinds (V : VI σ) (a : Int32) : Op (fun h => F_X4_kinds h 0 a) (fun h => F_X5_kinds h 145 a) σ := by
  have v2 := V.1.1.2
  have q10 : ¬ (1 : Int32) = 0 := by decide
  rcases ixs a (n := tH (zT σ)) (by omega) with hx | ⟨k, hk, rfl⟩
  · refine Op.const (-2) V (fun h H C => ?_) (fun h H R => ?_)
    · unfold F_X4_kinds
      simp only [o0_ck H, c_isH_no H C.1 hx, Option.bind_some, not_true_eq_false, if_false]
    · unfold F_X5_kinds
      simp only [o145_ck H, r_isH_no H V.1.1 R.1 hx, Option.bind_some, not_true_eq_false, if_false]
  · obtain ⟨d, hd, gd⟩ := Gd.of V.1 V.2.1
    obtain ⟨w, hw, ew⟩ := gd.2.1 k hk
    refine Op.fore (btP (fun c => wsB (zT σ) (zD σ) (zN σ) k (asP (zY σ) k (nI c) (nI w)) 14) 4) V (fun h H C => ?_) (fun h H R => ?_)
    · obtain ⟨h', n1, n2⟩ := c_kinds_loop V hk hw ew 4 0 FU h H C (by omega) (by unfold FU; omega)
      refine ⟨h', ?_, n2⟩
      unfold F_X4_kinds
      simp only [o0_ck H, c_isH_yes H V.1.1 C.1 hk, Option.bind_some, q10, not_false_eq_true, if_true]
      exact n1
    · obtain ⟨h1, a1, a2, a3⟩ := r_asTold (y := zY σ) H V.1.1 R.1 V.2.1.2.2.2.1
      obtain ⟨h', n1, n2⟩ := r_kinds_loop V hk hw ew gd hd 4 0 FU h1 (H.fs a2) (R.fore a2 (by decide)) (fun j hj => ⟨fun _ => (a3 j hj).1, (a3 j hj).2⟩) (by omega) (by unfold FU; omega)
      refine ⟨h', ?_, (a2.wide (by decide)).trans n2⟩
      unfold F_X5_kinds
      simp only [o145_ck H, r_isH_yes H V.1.1 R.1 hk, Option.bind_some, q10, not_false_eq_true, if_true, a1]
      exact n1
theorem c_habits_loop (V : VI σ) {k : Nat} {c : Int32} (hk : k < tH (zT σ)) (ec : zY σ 5 k = c) : ∀ (m i g : Nat) (h : AH), Lo h → CI h σ → i + m = 10 → m < g → ∃ h', L_X4_habits_15 0 (nI k) (fun h6 y7 _ => some (y7, h6)) g h (btP (fun w => wsB (zT σ) (zD σ) (zN σ) k (asP (zY σ) k c (nI w)) 14) i) (nI i) = some (btP (fun w => wsB (zT σ) (zD σ) (zN σ) k (asP (zY σ) k c (nI w)) 14) 10, h') ∧ Fr h h' 27 37 := by
  have v2 := V.1.1.2
  intro m
  induction m with
  | zero =>
    intro i g h H C e hg
    obtain ⟨g, rfl⟩ : ∃ z, g = z + 1 := ⟨g - 1, by omega⟩
    have hi : i = 10 := by omega
    subst hi
    refine ⟨h, ?_, Fr.refl _ _ _⟩
    conv => lhs; unfold L_X4_habits_15
    rw [if_pos (by decide)]
  | succ m ih =>
    intro i g h H C e hg
    obtain ⟨g, rfl⟩ : ∃ z, g = z + 1 := ⟨g - 1, by omega⟩
    have h3 : ¬ (9 : Int32) < nI i := nI_nlt (a := 9) (by omega) (by omega)
    obtain ⟨h1, k1, k2⟩ := c_wbs V H C c hk (show i ≤ 9 by omega)
    have e5 : hI h (17 + 5) k = c := ((C.2.1.2.2.2.1 k hk).1).trans ec
    obtain ⟨h', n1, n2⟩ := ih (i + 1) g h1 (H.fr k2) (C.fore V k2) (by omega) (by omega)
    refine ⟨h', ?_, k2.trans n2⟩
    have hb : btP (fun w => wsB (zT σ) (zD σ) (zN σ) k (asP (zY σ) k c (nI w)) 14) (i + 1) = if wsB (zT σ) (zD σ) (zN σ) k (asP (zY σ) k c (nI i)) 14 then btP (fun w => wsB (zT σ) (zD σ) (zN σ) k (asP (zY σ) k c (nI w)) 14) i ||| (1 <<< (nI i &&& 31)) else btP (fun w => wsB (zT σ) (zD σ) (zN σ) k (asP (zY σ) k c (nI w)) 14) i := rfl
    rw [hb] at n1
    conv => lhs; unfold L_X4_habits_15
    rw [if_neg h3, o0_R3 H, Option.bind_some, y_R4 H yo_17, Option.bind_some, y_ld5 H yo_17 (by omega), Option.bind_some, e5, k1, Option.bind_some, nI_1]
    cases hc : wsB (zT σ) (zD σ) (zN σ) k (asP (zY σ) k c (nI i)) 14 with
    | true =>
      rw [hc] at n1
      rw [if_neg bI_t, Option.bind_some]
      exact n1
    | false =>
      rw [hc] at n1
      rw [if_pos bI_f, Option.bind_some]
      exact n1
theorem r_habits_loop (V : VI σ) {k d : Nat} {c : Int32} (hk : k < tH (zT σ)) (ec : zY σ 5 k = c) (gd : Gd (zT σ) (zY σ) d) (hd : d ≤ 999) : ∀ (m i g : Nat) (h : AH), Lo h → RI h σ → (∀ j, j < tH (zT σ) → hI h 154 j = zY σ 5 j ∧ (j ≠ k → hI h 155 j = zY σ 6 j)) → i + m = 10 → m < g → ∃ h', L_X5_habits_19 145 (nI k) (fun h5 y6 _ => some (y6, h5)) g h (btP (fun w => wsB (zT σ) (zD σ) (zN σ) k (asP (zY σ) k c (nI w)) 14) i) (nI i) = some (btP (fun w => wsB (zT σ) (zD σ) (zN σ) k (asP (zY σ) k c (nI w)) 14) 10, h') ∧ Fs h h' [154, 155, 156, 157] := by
  have v2 := V.1.1.2
  intro m
  induction m with
  | zero =>
    intro i g h H R K e hg
    obtain ⟨g, rfl⟩ : ∃ z, g = z + 1 := ⟨g - 1, by omega⟩
    have hi : i = 10 := by omega
    subst hi
    refine ⟨h, ?_, Fs.refl _ _⟩
    conv => lhs; unfold L_X5_habits_19
    rw [if_pos (by decide)]
  | succ m ih =>
    intro i g h H R K e hg
    obtain ⟨g, rfl⟩ : ∃ z, g = z + 1 := ⟨g - 1, by omega⟩
    have h3 : ¬ (10 : Int32) ≤ nI i := nI_ge (b := 10) (by omega) (by omega)
    have F0 : Fs h (sI h 155 k (nI i)) [154, 155, 156, 157] := (Fs.refl h _).sA (by decide)
    have H0 := H.fs F0
    have R0 := R.fore F0 (by decide)
    have K0 : RK (zT σ) (sI h 155 k (nI i)) (asP (zY σ) k c (nI i)) := by
      intro j hj
      unfold asP
      rw [sI_ob _ 155 _ 154 _ (by decide), up2_ne (by omega)]
      by_cases hjk : j = k
      · subst hjk
        rw [sI_at, up2_eq, up2_eq, (K j hj).1, ec]
        exact ⟨rfl, rfl⟩
      · rw [sI_ne _ _ _ _ _ hjk, up2_ne (by omega), up2_ne (by omega), up2_ne (by omega)]
        exact ⟨(K j hj).1, (K j hj).2 hjk⟩
    obtain ⟨h1, k1, k2⟩ := r_comes V H0 R0.1 R0.2.2.2.2.1 hk K0 (gd.as k c (show i ≤ 9 by omega)) hd (R0.2.1.as k c (nI i))
    have F1 : Fs h h1 [154, 155, 156, 157] := F0.trans (k2.wide (by decide))
    obtain ⟨h', n1, n2⟩ := ih (i + 1) g h1 (H.fs F1) (R.fore F1 (by decide)) (fun j hj => by
      rw [k2.2.2.2 154 (by decide), k2.2.2.2 155 (by decide), sI_ob _ 155 _ 154 _ (by decide)]
      exact ⟨(K j hj).1, fun hjk => by rw [sI_ne _ _ _ _ _ hjk]; exact (K j hj).2 hjk⟩) (by omega) (by omega)
    refine ⟨h', ?_, F1.trans n2⟩
    have hb : btP (fun w => wsB (zT σ) (zD σ) (zN σ) k (asP (zY σ) k c (nI w)) 14) (i + 1) = if wsB (zT σ) (zD σ) (zN σ) k (asP (zY σ) k c (nI i)) 14 then btP (fun w => wsB (zT σ) (zD σ) (zN σ) k (asP (zY σ) k c (nI w)) 14) i ||| (1 <<< (nI i &&& 31)) else btP (fun w => wsB (zT σ) (zD σ) (zN σ) k (asP (zY σ) k c (nI w)) 14) i := rfl
    rw [hb] at n1
    conv => lhs; unfold L_X5_habits_19
    rw [if_neg h3, o145_R18 H, Option.bind_some, o155_st H (by omega), Option.bind_some, k1, Option.bind_some, nI_1]
    cases hc : wsB (zT σ) (zD σ) (zN σ) k (asP (zY σ) k c (nI i)) 14 with
    | true =>
      rw [hc] at n1
      rw [if_neg bI_t, Option.bind_some]
      exact n1
    | false =>
      rw [hc] at n1
      rw [if_pos bI_f, Option.bind_some, Int32.or_zero]
      exact n1
theorem op_habits (V : VI σ) (a : Int32) : Op (fun h => F_X4_habits h 0 a) (fun h => F_X5_habits h 145 a) σ := by
  have v2 := V.1.1.2
  have q10 : ¬ (1 : Int32) = 0 := by decide
  rcases ixs a (n := tH (zT σ)) (by omega) with hx | ⟨k, hk, rfl⟩
  · refine Op.const (-2) V (fun h H C => ?_) (fun h H R => ?_)
    · unfold F_X4_habits
      simp only [o0_ck H, c_isH_no H C.1 hx, Option.bind_some, not_true_eq_false, if_false]
    · unfold F_X5_habits
      simp only [o145_ck H, r_isH_no H V.1.1 R.1 hx, Option.bind_some, not_true_eq_false, if_false]
  · obtain ⟨d, hd, gd⟩ := Gd.of V.1 V.2.1
    refine Op.fore (btP (fun w => wsB (zT σ) (zD σ) (zN σ) k (asP (zY σ) k (zY σ 5 k) (nI w)) 14) 10) V (fun h H C => ?_) (fun h H R => ?_)
    · obtain ⟨h', n1, n2⟩ := c_habits_loop V hk rfl 10 0 FU h H C (by omega) (by unfold FU; omega)
      refine ⟨h', ?_, n2⟩
      unfold F_X4_habits
      simp only [o0_ck H, c_isH_yes H V.1.1 C.1 hk, Option.bind_some, q10, not_false_eq_true, if_true]
      exact n1
    · obtain ⟨h1, a1, a2, a3⟩ := r_asTold (y := zY σ) H V.1.1 R.1 V.2.1.2.2.2.1
      obtain ⟨h', n1, n2⟩ := r_habits_loop V hk rfl gd hd 10 0 FU h1 (H.fs a2) (R.fore a2 (by decide)) (fun j hj => ⟨(a3 j hj).1, fun _ => (a3 j hj).2⟩) (by omega) (by unfold FU; omega)
      refine ⟨h', ?_, (a2.wide (by decide)).trans n2⟩
      unfold F_X5_habits
      simp only [o145_ck H, r_isH_yes H V.1.1 R.1 hk, Option.bind_some, q10, not_false_eq_true, if_true, a1]
      exact n1
end SEENK
