/-! trough: the mathematics. Eggs don't hang on meanings; rights of all are counted by places -/
def nsm (f : Nat → Nat) : Nat → Nat
  | 0 => 0
  | n + 1 => nsm f n + f n
theorem nsm_congr {f g : Nat → Nat} : ∀ n, (∀ i, i < n → f i = g i) → nsm f n = nsm g n := by
  intro n
  induction n with
  | zero => intro _; rfl
  | succ n ih =>
    intro h
    unfold nsm
    rw [ih (fun i hi => h i (by omega)), h n (by omega)]
theorem nsm_add (f g : Nat → Nat) : ∀ n, nsm (fun i => f i + g i) n = nsm f n + nsm g n := by
  intro n
  induction n with
  | zero => rfl
  | succ n ih => unfold nsm; rw [ih]; omega
theorem nsm_up {f g : Nat → Nat} {i : Nat} (h : ∀ j, j ≠ i → g j = f j) : ∀ n, (n ≤ i → nsm g n = nsm f n) ∧ (i < n → nsm g n + f i = nsm f n + g i) := by
  intro n
  induction n with
  | zero => exact ⟨fun _ => rfl, fun h => absurd h (Nat.not_lt_zero i)⟩
  | succ n ih =>
    unfold nsm
    refine ⟨fun hn => ?_, fun hn => ?_⟩
    · rw [ih.1 (by omega), h n (by omega)]
    · by_cases hin : i = n
      · subst hin
        rw [ih.1 (Nat.le_refl _)]
        omega
      · have := ih.2 (by omega)
        rw [h n (fun z => hin z.symm)]
        omega
theorem nsm_le {f : Nat → Nat} {b : Nat} (h : ∀ i, f i ≤ b) : ∀ n, nsm f n ≤ n * b := by
  intro n
  induction n with
  | zero => exact Nat.zero_le _
  | succ n ih =>
    unfold nsm
    have := h n
    rw [Nat.succ_mul]
    omega
theorem smP_up {f g : Nat → Int32} {i : Nat} {x : Int32} (h : ∀ j, j ≠ i → g j = f j) (hi : g i = f i + x) : ∀ n, (n ≤ i → smP g n = smP f n) ∧ (i < n → smP g n = smP f n + x) := by
  intro n
  induction n with
  | zero => exact ⟨fun _ => rfl, fun h => absurd h (Nat.not_lt_zero i)⟩
  | succ n ih =>
    unfold smP
    refine ⟨fun hn => ?_, fun hn => ?_⟩
    · rw [ih.1 (by omega), h n (by omega)]
    · by_cases hin : i = n
      · subst hin
        rw [ih.1 (Nat.le_refl _), hi, Int32.add_assoc]
      · rw [ih.2 (by omega), h n (fun z => hin z.symm), Int32.add_assoc, Int32.add_assoc, Int32.add_comm x]
theorem smP_nI {f : Nat → Int32} {b : Nat} : ∀ n, (∀ i, i < n → ∃ r, r ≤ b ∧ f i = nI r) → ∃ s, s ≤ n * b ∧ smP f n = nI s := by
  intro n
  induction n with
  | zero => intro _; exact ⟨0, Nat.zero_le _, rfl⟩
  | succ n ih =>
    intro h
    obtain ⟨s, hs, es⟩ := ih (fun i hi => h i (by omega))
    obtain ⟨r, hr, er⟩ := h n (by omega)
    refine ⟨s + r, by rw [Nat.succ_mul]; omega, ?_⟩
    unfold smP
    rw [es, er, nI_add]
/-- one if an egg is at p and the news is its meaning -/
def one (w : YT) (v : Int32) (m : Nat → Int32) (p : Nat) : Nat := if ¬ w 3 p = -1 ∧ v = m p then 1 else 0
theorem dy_sum {τ : TT} (V : VT τ) (w : YT) {dw : Nat} (hd : dw < 2 ^ 31) (ed : w 0 9 = nI dw) : ∀ n, n ≤ tH τ → smP (dyP τ w n 8) 5 = smP (w 8) 5 + nI (nsm (one (dyP τ w n) (tY τ 6 (dw % 14)) (w 1)) (tP τ)) := by
  have v1 := V.1
  have v2 := V.2
  intro n
  induction n with
  | zero =>
    intro _
    have e8 : dyP τ w 0 8 = w 8 := by unfold dyP; rw [upR_ne (by decide), upR_ne (by decide)]
    have e0 : nsm (one (dyP τ w 0) (tY τ 6 (dw % 14)) (w 1)) (tP τ) = nsm (fun _ => 0) (tP τ) := nsm_congr _ (fun p _ => by
      unfold one
      have : dyP τ w 0 3 p = -1 := by unfold dyP; rw [upR_ne (by decide), upR_eq]
      rw [if_neg (fun z => z.1 this)])
    have e00 : ∀ n, nsm (fun _ => 0) n = 0 := by
      intro n
      induction n with
      | zero => rfl
      | succ n ih => unfold nsm; rw [ih]
    rw [e8, e0, e00, nI_0, Int32.add_zero]
  | succ n ih =>
    intro hn
    have ih := ih (by omega)
    have e : dyP τ w (n + 1) = hnP τ (dyP τ w n) n := rfl
    rcases plP_place V (dyP τ w n) n with hz | ⟨p, hp, hz, hz3⟩
    · have e2 : dyP τ w (n + 1) = dyP τ w n := by rw [e]; unfold hnP; rw [if_pos hz]
      rw [e2]
      exact ih
    · have hne : ¬ nI p = -1 := nI_m1 (by omega)
      have e2 : dyP τ w (n + 1) = egP τ (dyP τ w n) n p := by rw [e]; unfold hnP; rw [if_neg (by rw [hz]; exact hne), hz, nI_clamp (by omega)]
      have hB : rgB τ (dyP τ w n) p = decide (tY τ 6 (dw % 14) = w 1 p) := by
        unfold rgB
        rw [dyP_row τ w 0 (by omega), dyP_row τ w 1 (by omega), ed, nI_clamp hd]
      have r3 : ∀ q, egP τ (dyP τ w n) n p 3 q = if q = p then nI n else dyP τ w n 3 q := fun q => by simp [egP, up2]
      have r8 : ∀ j, egP τ (dyP τ w n) n p 8 j = if j = n then dyP τ w n 8 n + (if rgB τ (dyP τ w n) p then 1 else 0) else dyP τ w n 8 j := fun j => by
        simp only [egP, up2]
        by_cases hj : j = n
        · simp [hj]
        · simp [hj]
      have h8 := (smP_up (f := dyP τ w n 8) (g := egP τ (dyP τ w n) n p 8) (i := n) (x := if rgB τ (dyP τ w n) p then 1 else 0) (fun j hj => by rw [r8 j, if_neg hj]) (by rw [r8 n, if_pos rfl]) 5).2 (by omega)
      have hN := (nsm_up (f := one (dyP τ w n) (tY τ 6 (dw % 14)) (w 1)) (g := one (egP τ (dyP τ w n) n p) (tY τ 6 (dw % 14)) (w 1)) (i := p) (fun j hj => by unfold one; rw [r3 j, if_neg hj]) (tP τ)).2 hp
      have o0 : one (dyP τ w n) (tY τ 6 (dw % 14)) (w 1) p = 0 := by unfold one; rw [if_neg (fun z => z.1 hz3)]
      have hn1 : ¬ nI n = -1 := nI_m1 (by omega)
      rw [e2, h8, ih, hB]
      rw [o0] at hN
      by_cases hr : tY τ 6 (dw % 14) = w 1 p
      · have o1 : one (egP τ (dyP τ w n) n p) (tY τ 6 (dw % 14)) (w 1) p = 1 := by
          unfold one
          rw [r3 p, if_pos rfl, if_pos ⟨hn1, hr⟩]
        rw [o1] at hN
        have : nsm (one (egP τ (dyP τ w n) n p) (tY τ 6 (dw % 14)) (w 1)) (tP τ) = nsm (one (dyP τ w n) (tY τ 6 (dw % 14)) (w 1)) (tP τ) + 1 := by omega
        rw [this, decide_eq_true hr, ← nI_1, Int32.add_assoc]
        rfl
      · have o1 : one (egP τ (dyP τ w n) n p) (tY τ 6 (dw % 14)) (w 1) p = 0 := by
          unfold one
          rw [if_neg (fun z => hr z.2)]
        rw [o1] at hN
        have : nsm (one (egP τ (dyP τ w n) n p) (tY τ 6 (dw % 14)) (w 1)) (tP τ) = nsm (one (dyP τ w n) (tY τ 6 (dw % 14)) (w 1)) (tP τ) := by omega
        rw [this, decide_eq_false hr]
        exact Int32.add_zero _
theorem day_sum {τ : TT} (V : VT τ) (w : YT) {dw : Nat} (hd : dw < 2 ^ 31) (ed : w 0 9 = nI dw) : smP (dayP τ w 8) 5 = smP (w 8) 5 + nI (nsm (one (dayP τ w) (tY τ 6 (dw % 14)) (w 1)) (tP τ)) := by
  have e8 : dayP τ w 8 = dyP τ w (tH τ) 8 := by
    funext j
    unfold dayP
    rw [up2_ne (by omega), up2_ne (by omega)]
  have e3 : nsm (one (dayP τ w) (tY τ 6 (dw % 14)) (w 1)) (tP τ) = nsm (one (dyP τ w (tH τ)) (tY τ 6 (dw % 14)) (w 1)) (tP τ) := nsm_congr _ (fun p _ => by unfold one; rw [day_3])
  rw [e8, e3]
  exact dy_sum V w hd ed (tH τ) (Nat.le_refl _)
def nwP (τ : TT) (d i : Nat) : Int32 := tY τ 6 ((d + i) % 14)
/-- on how many of n days an egg came to p while the news was m -/
def htP (τ : TT) (y : YT) (d p : Nat) (m : Int32) : Nat → Nat
  | 0 => 0
  | n + 1 => htP τ y d p m n + (if ¬ itP τ y (n + 1) 3 p = -1 ∧ nwP τ d n = m then 1 else 0)
theorem ht_le (τ : TT) (y : YT) (d p : Nat) (m : Int32) : ∀ n, htP τ y d p m n ≤ n := by
  intro n
  induction n with
  | zero => exact Nat.le_refl _
  | succ n ih => unfold htP; split <;> omega
def toP (τ : TT) (y : YT) (d n : Nat) : Nat := nsm (fun p => htP τ y d p (y 1 p) n) (tP τ)
theorem it_sum {τ : TT} (V : VT τ) (y : YT) {d : Nat} (hd : d < 2 ^ 30) (ed : y 0 9 = nI d) : ∀ n, n ≤ 1000 → itP τ y n 0 9 = nI (d + n) ∧ smP (itP τ y n 8) 5 = smP (y 8) 5 + nI (toP τ y d n) := by
  intro n
  induction n with
  | zero =>
    intro _
    refine ⟨ed, ?_⟩
    have e0 : toP τ y d 0 = 0 := by
      have : ∀ k, nsm (fun p => htP τ y d p (y 1 p) 0) k = 0 := by
        intro k
        induction k with
        | zero => rfl
        | succ k ih => unfold nsm; rw [ih]; rfl
      exact this _
    rw [e0, nI_0, Int32.add_zero]
    rfl
  | succ n ih =>
    intro hn
    obtain ⟨i1, i2⟩ := ih (by omega)
    refine ⟨?_, ?_⟩
    · show dayP τ (itP τ y n) 0 9 = _
      rw [day_9, i1, nI_1]
      rfl
    · show smP (dayP τ (itP τ y n) 8) 5 = _
      rw [day_sum V (itP τ y n) (show d + n < 2 ^ 31 by omega) i1, i2, Int32.add_assoc, nI_add]
      have e : toP τ y d (n + 1) = toP τ y d n + nsm (one (dayP τ (itP τ y n)) (tY τ 6 ((d + n) % 14)) (itP τ y n 1)) (tP τ) := by
        unfold toP
        rw [← nsm_add]
        refine nsm_congr _ (fun p _ => ?_)
        rw [it_row τ y 1 (by omega)]
        rfl
      rw [e]
/-! eggs don't hang on meanings -/
def Ind (a b : YT) : Prop := a 0 = b 0 ∧ a 2 = b 2 ∧ a 3 = b 3 ∧ a 5 = b 5 ∧ a 6 = b 6 ∧ a 7 = b 7
theorem Ind.lk {τ : TT} {a b : YT} (I : Ind a b) (h p : Nat) : lkP τ a h p = lkP τ b h p := by
  obtain ⟨i0, i2, i3, i5, i6, i7⟩ := I
  unfold lkP
  rw [i0, i2, i5, i6, i7]
theorem Ind.bs {τ : TT} {a b : YT} (I : Ind a b) (h : Nat) : ∀ n, bsP τ a h n = bsP τ b h n := by
  intro n
  induction n with
  | zero => rfl
  | succ n ih => unfold bsP; rw [ih, I.lk h n, I.2.2.1]
theorem Ind.pl {τ : TT} {a b : YT} (I : Ind a b) (h : Nat) : plP τ a h = plP τ b h := by
  unfold plP
  rw [I.bs h, I.1, I.2.2.2.1]
theorem Ind.up {a b : YT} (I : Ind a b) (i j : Nat) (u v : Int32) (h : u = v ∨ i = 1 ∨ i = 4 ∨ i = 8 ∨ i = 9) : Ind (up2 a i j u) (up2 b i j v) := by
  have g : ∀ r, a r = b r → (r = 0 ∨ r = 2 ∨ r = 3 ∨ r = 5 ∨ r = 6 ∨ r = 7) → up2 a i j u r = up2 b i j v r := by
    intro r e hr
    funext c
    unfold up2
    by_cases hc : r = i ∧ c = j
    · rw [if_pos hc, if_pos hc]
      rcases h with h | h | h | h | h
      · exact h
      all_goals omega
    · rw [if_neg hc, if_neg hc, e]
  obtain ⟨i0, i2, i3, i5, i6, i7⟩ := I
  exact ⟨g 0 i0 (by omega), g 2 i2 (by omega), g 3 i3 (by omega), g 5 i5 (by omega), g 6 i6 (by omega), g 7 i7 (by omega)⟩
theorem Ind.hn {τ : TT} {a b : YT} (I : Ind a b) (h : Nat) : Ind (hnP τ a h) (hnP τ b h) := by
  unfold hnP
  rw [I.pl h]
  split
  · exact I
  · unfold egP
    exact ((((I.up 3 _ _ _ (Or.inl rfl)).up 4 _ _ _ (by omega)).up 7 _ _ _ (Or.inl rfl)).up 8 _ _ _ (by omega)).up 9 _ _ _ (by omega)
theorem Ind.dy {τ : TT} {a b : YT} (I : Ind a b) : ∀ n, Ind (dyP τ a n) (dyP τ b n) := by
  intro n
  induction n with
  | zero =>
    obtain ⟨i0, i2, i3, i5, i6, i7⟩ := I
    unfold dyP
    have e : ∀ (w : YT) r, r ≠ 3 → r ≠ 4 → upR (upR w 3 (fun _ => -1)) 4 (fun _ => 0) r = w r := fun w r h3 h4 => by rw [upR_ne h4, upR_ne h3]
    have e3 : ∀ (w : YT), upR (upR w 3 (fun _ => -1)) 4 (fun _ => 0) 3 = fun _ => -1 := fun w => by rw [upR_ne (by decide), upR_eq]
    refine ⟨?_, ?_, ?_, ?_, ?_, ?_⟩
    · rw [e _ 0 (by decide) (by decide), e _ 0 (by decide) (by decide), i0]
    · rw [e _ 2 (by decide) (by decide), e _ 2 (by decide) (by decide), i2]
    · rw [e3, e3]
    · rw [e _ 5 (by decide) (by decide), e _ 5 (by decide) (by decide), i5]
    · rw [e _ 6 (by decide) (by decide), e _ 6 (by decide) (by decide), i6]
    · rw [e _ 7 (by decide) (by decide), e _ 7 (by decide) (by decide), i7]
  | succ n ih => exact ih.hn n
theorem Ind.day {τ : TT} {a b : YT} (I : Ind a b) : Ind (dayP τ a) (dayP τ b) := by
  unfold dayP
  exact ((I.dy (tH τ)).up 0 10 _ _ (Or.inl rfl)).up 0 9 _ _ (Or.inl (by rw [I.1]))
theorem Ind.it {τ : TT} {a b : YT} (I : Ind a b) : ∀ n, Ind (itP τ a n) (itP τ b n) := by
  intro n
  induction n with
  | zero => exact I
  | succ n ih => exact ih.day
theorem Ind.ht {τ : TT} {a b : YT} (I : Ind a b) (d p : Nat) (m : Int32) : ∀ n, htP τ a d p m n = htP τ b d p m n := by
  intro n
  induction n with
  | zero => rfl
  | succ n ih => unfold htP; rw [ih, (I.it (n + 1)).2.2.1]
theorem Ind.mv (y : YT) (p q : Nat) : Ind (mvP y p q) y := by
  have e : ∀ r, r ≠ 1 → mvP y p q r = y r := fun r hr => by
    funext c
    unfold mvP
    rw [up2_ne (by omega), up2_ne (by omega)]
  exact ⟨e 0 (by decide), e 2 (by decide), e 3 (by decide), e 5 (by decide), e 6 (by decide), e 7 (by decide)⟩
def trA (τ : TT) (y : YT) (d n p q : Nat) : Nat := htP τ y d p (y 1 q) n + htP τ y d q (y 1 p) n
def trB (τ : TT) (y : YT) (d n p q : Nat) : Nat := htP τ y d p (y 1 p) n + htP τ y d q (y 1 q) n
/-- an exchange of p and q: what it gains -/
theorem to_mv {τ : TT} {y : YT} {d n p q : Nat} (hp : p < tP τ) (hq : q < tP τ) (hne : p ≠ q) : toP τ (mvP y p q) d n + trB τ y d n p q = toP τ y d n + trA τ y d n p q := by
  have m1 : ∀ r, mvP y p q 1 r = if r = q then y 1 p else if r = p then y 1 q else y 1 r := fun r => by
    unfold mvP up2
    by_cases h1 : r = q
    · simp [h1]
    · by_cases h2 : r = p
      · simp [h1, h2]
      · simp [h1, h2]
  have e1 : toP τ (mvP y p q) d n = nsm (fun r => htP τ y d r (if r = q then y 1 p else if r = p then y 1 q else y 1 r) n) (tP τ) := nsm_congr _ (fun r _ => by
    show htP τ (mvP y p q) d r (mvP y p q 1 r) n = _
    rw [(Ind.mv y p q).ht, m1 r])
  have s1 := (nsm_up (f := fun r => htP τ y d r (y 1 r) n) (g := fun r => htP τ y d r (if r = p then y 1 q else y 1 r) n) (i := p) (fun j hj => by show htP τ y d j (if j = p then y 1 q else y 1 j) n = _; rw [if_neg hj]) (tP τ)).2 hp
  have s2 := (nsm_up (f := fun r => htP τ y d r (if r = p then y 1 q else y 1 r) n) (g := fun r => htP τ y d r (if r = q then y 1 p else if r = p then y 1 q else y 1 r) n) (i := q) (fun j hj => by show htP τ y d j (if j = q then y 1 p else if j = p then y 1 q else y 1 j) n = _; rw [if_neg hj]) (tP τ)).2 hq
  have hne' : ¬ q = p := fun z => hne z.symm
  simp only [if_true, if_neg hne'] at s1 s2
  rw [e1]
  unfold toP trA trB
  omega
