/-! the class's yards: Told and Yard against the mathematics -/
def Yc (h : AH) (o : Nat) : YT := fun i j => hI h (o + i) j
def CY (τ : TT) (c y : YT) : Prop :=
  (∀ j, 9 ≤ j → j ≤ 13 → c 0 j = y 0 j) ∧ (∀ p, p < tP τ → c 1 p = y 1 p ∧ c 2 p = y 2 p) ∧ (∀ p, p < 8 → c 3 p = y 3 p ∧ (¬ y 3 p = -1 → c 4 p = if y 4 p = 1 then 2 else -1)) ∧ (∀ h, h < tH τ → c 5 h = y 5 h ∧ c 6 h = y 6 h) ∧ (∀ h, h < 5 → c 7 h = y 7 h ∧ c 8 h = y 8 h ∧ c 9 h = y 9 h)
def CT (h : AH) (t : Nat) (τ : TT) : Prop :=
  hI h t 0 = nI (tP τ) ∧ hI h t 1 = nI (tH τ) ∧ (∀ p, p < tP τ → hI h (t + 1) p = tY τ 1 p ∧ hI h (t + 2) p = tY τ 2 p ∧ hI h (t + 3) p = tY τ 3 p) ∧ (∀ k, k < tH τ → hI h (t + 4) k = tY τ 4 k ∧ hI h (t + 5) k = tY τ 5 k) ∧ ∀ d, d < 14 → hI h (t + 6) d = tY τ 6 d
theorem CT.fr {h h' : AH} {t a b : Nat} {τ : TT} (T : CT h t τ) (F : Fr h h' a b) (hd : t + 7 ≤ a ∨ b ≤ t) : CT h' t τ := by
  obtain ⟨t1, t2, t3, t4, t5⟩ := T
  have e : ∀ i, i < 7 → hI h' (t + i) = hI h (t + i) := fun i hi => F.2.2.2 _ (by omega)
  have e0 : hI h' t = hI h t := F.2.2.2 _ (by omega)
  unfold CT
  rw [e0, e 1 (by omega), e 2 (by omega), e 3 (by omega), e 4 (by omega), e 5 (by omega), e 6 (by omega)]
  exact ⟨t1, t2, t3, t4, t5⟩
theorem nI_lit8 : (8 : Int32) = nI 8 := rfl
theorem fill_loop {β : Type} {o n : Nat} {v : Int32} {k : AH → Int32 → Option β} (ho : o < 158) (hs : lyS o = (10, n)) (hn : n < 900) :
    ∀ (m i f : Nat) (h : AH), Lo h → i + m = n → m < f → L_J7_fill_53178_5 o v (nI n) k f h (nI i) = k (sA h o (fun j => if i ≤ j ∧ j < n then v else hI h o j)) (nI n) := by
  intro m
  induction m with
  | zero =>
    intro i f h H e hf
    obtain ⟨f, rfl⟩ : ∃ g, f = g + 1 := ⟨f - 1, by omega⟩
    unfold L_J7_fill_53178_5
    have hin : i = n := by omega
    subst hin
    rw [if_pos (nI_le (Nat.le_refl i) (by omega))]
    rw [sA_eq (funext fun j => if_neg (by omega))]
  | succ m ih =>
    intro i f h H e hf
    obtain ⟨f, rfl⟩ : ∃ g, f = g + 1 := ⟨f - 1, by omega⟩
    unfold L_J7_fill_53178_5
    rw [if_neg (nI_ge (by omega) (by omega)), op_stA H ho hs (by omega) (by omega), Option.bind_some, nI_1, ih (i + 1) f _ (H.sA _ _) (by omega) (by omega), sA_sA]
    congr 2
    funext j
    rw [hI_sA, if_pos rfl]
    unfold upd
    by_cases h1 : j = i
    · rw [if_neg (by omega), if_pos h1, if_pos (by omega)]
    · by_cases h2 : i ≤ j ∧ j < n
      · rw [if_pos (by omega), if_pos h2]
      · rw [if_neg (by omega), if_neg h1, if_neg h2]
theorem fill_ok {h : AH} {o n : Nat} {v : Int32} (H : Lo h) (ho : o < 158) (hs : lyS o = (10, n)) (hn : n < 900) : F_J7_fill_53178 h o v = some (sA h o (fun j => if j < n then v else hI h o j)) := by
  unfold F_J7_fill_53178
  rw [op_lnA H ho hs, Option.bind_some, ← nI_0, fill_loop ho hs hn n 0 FU h H (by omega) (by unfold FU; omega)]
  congr 2
  funext j
  by_cases h1 : j < n
  · rw [if_pos h1, if_pos (by omega)]
  · rw [if_neg h1, if_neg (by omega)]
section CYARD
variable {h : AH} {o t : Nat} {τ : TT} {y : YT}
theorem c_likes (H : Lo h) (ho : YO o) (ht : TO t) (V : VT τ) (C : CY τ (Yc h o) y) (T : CT h t τ) {k p : Nat} (hk : k < tH τ) (hp : p < tP τ) : F_X3_likes h o t (nI k) (nI p) = some (lkP τ y k p) := by
  have v1 := V.1
  have v2 := V.2
  have e2 : hI h (o + 2) p = y 2 p := (C.2.1 p hp).2
  have e3 : hI h (t + 3) p = tY τ 3 p := (T.2.2.1 p hp).2.2
  have e7 : hI h (o + 7) k = y 7 k := (C.2.2.2.2 k (by omega)).1
  have e5 : hI h (o + 5) k = y 5 k := (C.2.2.2.1 k hk).1
  have e6 : hI h (o + 6) k = y 6 k := (C.2.2.2.1 k hk).2
  have e9 : hI h o 9 = y 0 9 := C.1 9 (by omega) (by omega)
  have e0 : hI h t 0 = nI (tP τ) := T.1
  have hP0 : ¬ nI (tP τ) ≤ 0 := nI_nle (by omega) (by omega)
  have hPz : ¬ nI (tP τ) = 0 := nI_ne0 (by omega) (by omega)
  have h10 : ¬ (10 : Int32) = 0 := by decide
  unfold F_X3_likes lkP
  simp only [y_ck H ho, y_R1 H ho, y_R6 H ho, y_R4 H ho, y_R5 H ho, t_R4 H ht, y_gI H ho, t_gI H ht, y_ld2 H ho (show p < 8 by omega), t_ld3 H ht (show p < 8 by omega), y_ld7 H ho (show k < 5 by omega), y_ld5 H ho (show k < 5 by omega), y_ld6 H ho (show k < 5 by omega), Option.bind_some, e2, e3, e7, e5, e6, e9, e0, if_neg hP0, rmI, if_neg hPz, if_neg h10]
  by_cases h7 : y 7 k = nI p
  · have h71 : ¬ (1 : Int32) = 0 := by decide
    simp only [h7, not_true_eq_false, if_false, Option.bind_some, h71, if_true]
    by_cases h50 : y 5 k = 0
    · simp only [h50, if_true]
    · by_cases h51 : y 5 k = 1
      · simp only [h51, h71, if_true, if_false]
      · by_cases h52 : y 5 k = 2
        · have q0 : ¬ (2 : Int32) = 0 := by decide
          have q1 : ¬ (2 : Int32) = 1 := by decide
          simp only [h52, q0, q1, if_true, if_false]
          rfl
        · simp only [h50, h51, h52, if_false]
          by_cases hr : nI p = rmd (y 6 k) (nI (tP τ))
          · rw [if_pos hr, if_neg (by unfold rmd at hr; exact not_not_intro hr)]
          · rw [if_neg hr, if_pos (by unfold rmd at hr; exact hr)]
  · have h71 : ¬ (1 : Int32) = 0 := by decide
    simp only [h7, not_false_eq_true, if_true, Option.bind_some, if_false]
    by_cases h50 : y 5 k = 0
    · simp only [h50, if_true]
    · by_cases h51 : y 5 k = 1
      · simp only [h51, h71, if_true, if_false]
      · by_cases h52 : y 5 k = 2
        · have q0 : ¬ (2 : Int32) = 0 := by decide
          have q1 : ¬ (2 : Int32) = 1 := by decide
          simp only [h52, q0, q1, if_true, if_false]
          rfl
        · simp only [h50, h51, h52, if_false]
          by_cases hr : nI p = rmd (y 6 k) (nI (tP τ))
          · rw [if_pos hr, if_neg (by unfold rmd at hr; exact not_not_intro hr)]
          · rw [if_neg hr, if_pos (by unfold rmd at hr; exact hr)]
theorem c_fav_loop {β : Type} {kk : Int32 → Int32 → Int32 → Option β} (H : Lo h) (ho : YO o) (ht : TO t) (V : VT τ) (C : CY τ (Yc h o) y) (T : CT h t τ) {k : Nat} (hk : k < tH τ) : ∀ (m i f : Nat), i + m = tP τ → m < f → L_X3_favourite_8 h o t (nI k) kk f (bsP τ y k i).1 (bsP τ y k i).2 (nI i) = kk (bsP τ y k (tP τ)).1 (bsP τ y k (tP τ)).2 (nI (tP τ)) := by
  have v1 := V.1
  intro m
  induction m with
  | zero =>
    intro i f e hf
    obtain ⟨f, rfl⟩ : ∃ g, f = g + 1 := ⟨f - 1, by omega⟩
    have hi : i = tP τ := by omega
    subst hi
    unfold L_X3_favourite_8
    rw [t_gI H ht, Option.bind_some, T.1, if_pos (nI_le (Nat.le_refl _) (by omega))]
  | succ m ih =>
    intro i f e hf
    obtain ⟨f, rfl⟩ : ∃ g, f = g + 1 := ⟨f - 1, by omega⟩
    unfold L_X3_favourite_8
    have e3 : hI h (o + 3) i = y 3 i := (C.2.2.1 i (by omega)).1
    simp only [t_gI H ht, Option.bind_some, T.1, if_neg (nI_ge (show i < tP τ by omega) (show tP τ < 2 ^ 31 by omega)), y_R2 H ho, y_ld3 H ho (show i < 8 by omega), e3, c_likes H ho ht V C T hk (show i < tP τ by omega), nI_1]
    have hb : bsP τ y k (i + 1) = if ¬ y 3 i = -1 then bsP τ y k i else if (bsP τ y k i).1 = -1 then (nI i, lkP τ y k i) else if lkP τ y k i ≤ (bsP τ y k i).2 then bsP τ y k i else (nI i, lkP τ y k i) := rfl
    have go := ih (i + 1) f (by omega) (by omega)
    by_cases he : y 3 i = -1
    · rw [if_neg (not_not_intro he)] at hb
      simp only [he, not_true_eq_false, if_false]
      by_cases h1 : (bsP τ y k i).1 = -1
      · rw [if_pos h1] at hb
        rw [hb] at go
        simp only [h1, if_true, Option.bind_some]
        exact go
      · rw [if_neg h1] at hb
        by_cases h2 : lkP τ y k i ≤ (bsP τ y k i).2
        · rw [if_pos h2] at hb
          rw [hb] at go
          simp only [h1, h2, if_true, if_false, Option.bind_some]
          exact go
        · rw [if_neg h2] at hb
          rw [hb] at go
          simp only [h1, h2, if_false, Option.bind_some]
          exact go
    · rw [if_pos he] at hb
      rw [hb] at go
      simp only [he, not_false_eq_true, if_true, Option.bind_some]
      exact go
theorem c_fav (H : Lo h) (ho : YO o) (ht : TO t) (V : VT τ) (C : CY τ (Yc h o) y) (T : CT h t τ) {k : Nat} (hk : k < tH τ) : F_X3_favourite h o t (nI k) = some (bsP τ y k (tP τ)).1 := by
  have v1 := V.1
  unfold F_X3_favourite
  rw [y_ck H ho, Option.bind_some]
  exact c_fav_loop H ho ht V C T hk (tP τ) 0 FU (by omega) (by unfold FU; omega)
theorem c_lays (H : Lo h) (ho : YO o) (C : CY τ (Yc h o) y) {k : Nat} (V : VT τ) (hk : k < tH τ) : F_X3_laysToday h o (nI k) = some (if y 0 10 = 0 ∧ (¬ y 5 k = 1 ∨ rmd (y 0 9) 2 = 0) then 1 else 0) := by
  have v2 := V.2
  have e10 : hI h o 10 = y 0 10 := C.1 10 (by omega) (by omega)
  have e9 : hI h o 9 = y 0 9 := C.1 9 (by omega) (by omega)
  have e5 : hI h (o + 5) k = y 5 k := (C.2.2.2.1 k hk).1
  have h2 : ¬ (2 : Int32) = 0 := by decide
  unfold F_X3_laysToday
  simp only [y_ck H ho, y_gI H ho, y_R4 H ho, y_ld5 H ho (show k < 5 by omega), Option.bind_some, e10, e9, e5, rmI, if_neg h2]
  by_cases h10 : y 0 10 = 0
  · by_cases h5 : y 5 k = 1
    · by_cases hr : rmd (y 0 9) 2 = 0
      · have hr' : y 0 9 - y 0 9 / 2 * 2 = 0 := hr
        simp [h10, h5, hr, hr']
      · have hr' : ¬ y 0 9 - y 0 9 / 2 * 2 = 0 := hr
        simp [h10, h5, hr, hr']
    · simp [h10, h5]
  · simp [h10]
end CYARD
