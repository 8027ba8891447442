/-! a DAY on the reference's side -/
def laP (τ : TT) (y : YT) (j : Nat) : Int32 := if j < tH τ then plP τ (dyP τ y j) j else -1
theorem ebP_up {y y' : YT} {p : Nat} {v : Int32} (hp0 : y 3 p = -1) (hv : ¬ v = -1) (h3 : ∀ q, y' 3 q = if q = p then v else y 3 q) : ∀ n, ebP y' n = if p < n then ebP y n ||| (1 <<< (nI p &&& 31)) else ebP y n := by
  intro n
  induction n with
  | zero => rfl
  | succ n ih =>
    unfold ebP
    rw [h3 n, ih]
    by_cases hn : n = p
    · subst hn
      rw [if_pos rfl, if_neg hv, if_neg (Nat.lt_irrefl n), if_pos (Nat.lt_succ_self n), if_pos hp0]
    · rw [if_neg hn]
      by_cases hlt : p < n
      · rw [if_pos hlt, if_pos (by omega : p < n + 1)]
        by_cases he : y 3 n = -1
        · rw [if_pos he, if_pos he]
        · rw [if_neg he, if_neg he, Int32.or_assoc, Int32.or_assoc, Int32.or_comm (1 <<< (nI p &&& 31))]
      · rw [if_neg hlt, if_neg (by omega : ¬ p < n + 1)]
theorem ebP_congr {y y' : YT} (h3 : ∀ q, y' 3 q = y 3 q) : ∀ n, ebP y' n = ebP y n := by
  intro n
  induction n with
  | zero => rfl
  | succ n ih => unfold ebP; rw [h3 n, ih]
theorem ebP_0 {y : YT} (h3 : ∀ q, y 3 q = -1) : ∀ n, ebP y n = 0 := by
  intro n
  induction n with
  | zero => rfl
  | succ n ih => unfold ebP; rw [h3 n, if_pos rfl, ih]
theorem VL.dy {τ : TT} {y : YT} (L : VL τ y) (n : Nat) : VL τ (dyP τ y n) := by
  obtain ⟨l1, l2, l3⟩ := L
  unfold VL
  rw [dyP_row τ y 2 (by omega), dyP_row τ y 6 (by omega), dyP_row τ y 0 (by omega)]
  exact ⟨l1, l2, l3⟩
theorem RK.dy {τ : TT} {h : AH} {y : YT} (K : RK τ h y) (n : Nat) : RK τ h (dyP τ y n) := by
  unfold RK at K ⊢
  rw [dyP_row τ y 5 (by omega), dyP_row τ y 6 (by omega)]
  exact K
theorem RT.fs {h h' : AH} {τ : TT} {S : List Nat} (T : RT h τ) (F : Fs h h' S) (hn : 146 ∉ S) : RT h' τ := by
  unfold RT at T ⊢
  rw [F.2.2.2 146 hn]
  exact T
theorem RK.fs {h h' : AH} {τ : TT} {y : YT} {S : List Nat} (K : RK τ h y) (F : Fs h h' S) (h4 : 154 ∉ S) (h5 : 155 ∉ S) : RK τ h' y := by
  unfold RK at K ⊢
  rw [F.2.2.2 154 h4, F.2.2.2 155 h5]
  exact K
theorem ro_not {a : Nat} (ha : RO a) : 146 ∉ [a, 156] ∧ 154 ∉ [a, 156] ∧ 155 ∉ [a, 156] ∧ a ≠ 156 := by
  rcases ha with e | e <;> subst e <;> decide
section RGOES
variable {a : Nat} {τ : TT} {y : YT}
theorem r_clear_loop {β : Type} {kk : AH → Int32 → Option β} (ha : RO a) : ∀ (m i f : Nat) (h : AH), Lo h → i + m = 8 → m < f → L_X5_goes_2 145 a kk f h (nI i) = kk (sA h a (fun j => if 18 + i ≤ j ∧ j < 26 then -1 else if 26 + i ≤ j ∧ j < 34 then 0 else hI h a j)) (nI 8) := by
  intro m
  induction m with
  | zero =>
    intro i f h H e hf
    obtain ⟨f, rfl⟩ : ∃ g, f = g + 1 := ⟨f - 1, by omega⟩
    have hi : i = 8 := by omega
    subst hi
    unfold L_X5_goes_2
    rw [if_pos (by decide), sA_eq (funext fun j => by rw [if_neg (by omega), if_neg (by omega)])]
  | succ m ih =>
    intro i f h H e hf
    obtain ⟨f, rfl⟩ : ∃ g, f = g + 1 := ⟨f - 1, by omega⟩
    have hi : i < 8 := by omega
    have h8 : ¬ (8 : Int32) ≤ nI i := nI_ge (b := 8) hi (by omega)
    unfold L_X5_goes_2
    rw [if_neg h8, al_18, r_st H ha (by omega), Option.bind_some, al_26, r_st (H.sA _ _) ha (by omega), Option.bind_some, nI_1, ih (i + 1) f _ ((H.sA _ _).sA _ _) (by omega) (by omega), sA_sA, sA_sA]
    congr 2
    funext j
    simp only [hI_sA, if_true, upd]
    by_cases h1 : j = 18 + i
    · rw [if_neg (show ¬ (18 + (i + 1) ≤ j ∧ j < 26) by omega), if_neg (show ¬ (26 + (i + 1) ≤ j ∧ j < 34) by omega), if_neg (show ¬ j = 26 + i by omega), if_pos h1, if_pos (show 18 + i ≤ j ∧ j < 26 by omega)]
    · by_cases h2 : j = 26 + i
      · rw [if_neg (show ¬ (18 + (i + 1) ≤ j ∧ j < 26) by omega), if_neg (show ¬ (26 + (i + 1) ≤ j ∧ j < 34) by omega), if_pos h2, if_neg (show ¬ (18 + i ≤ j ∧ j < 26) by omega), if_pos (show 26 + i ≤ j ∧ j < 34 by omega)]
      · simp only [h1, h2, if_false]
        by_cases h3 : 18 + i ≤ j ∧ j < 26
        · rw [if_pos h3, if_pos (by omega)]
        · rw [if_neg h3, if_neg (by omega)]
          by_cases h4 : 26 + i ≤ j ∧ j < 34
          · rw [if_pos h4, if_pos (by omega)]
          · rw [if_neg h4, if_neg (by omega)]
theorem RY.laid {h : AH} {z : YT} (R : RY τ (hI h a) z) (ha : RO a) (g : Nat → Int32) : RY τ (hI (sA h 156 g) a) z := by
  rw [hI_sA, if_neg (ro_not ha).2.2.2]
  exact R
theorem RY.egg {h : AH} {z : YT} (R : RY τ (hI h a) z) (V : VT τ) {k p : Nat} (hk : k < tH τ) (hp : p < tP τ) : RY τ (upd (upd (upd (upd (upd (hI h a) (18 + p) (nI k)) (26 + p) (if rgB τ z p then 1 else 0)) (34 + k) (nI p)) (39 + k) (z 8 k + (if rgB τ z p then 1 else 0))) (44 + k) (z 9 k + (if rgB τ z p then 0 else 1))) (egP τ z k p) := by
  have v1 := V.1
  have v2 := V.2
  obtain ⟨⟨r1, r2, r3, r4, r5⟩, r6, r7, r8⟩ := R
  unfold egP
  refine ⟨⟨?_, ?_, ?_, ?_, ?_⟩, fun q hq => ?_, fun q hq => ?_, fun q hq => ?_⟩
  · have c1 : ¬ 0 = 18 + p := by omega
    have c2 : ¬ 0 = 26 + p := by omega
    have c3 : ¬ 0 = 34 + k := by omega
    have c4 : ¬ 0 = 39 + k := by omega
    have c5 : ¬ 0 = 44 + k := by omega
    simp only [upd, if_neg c1, if_neg c2, if_neg c3, if_neg c4, if_neg c5]
    simpa [up2] using r1
  · have c1 : ¬ 1 = 18 + p := by omega
    have c2 : ¬ 1 = 26 + p := by omega
    have c3 : ¬ 1 = 34 + k := by omega
    have c4 : ¬ 1 = 39 + k := by omega
    have c5 : ¬ 1 = 44 + k := by omega
    simp only [upd, if_neg c1, if_neg c2, if_neg c3, if_neg c4, if_neg c5]
    simpa [up2] using r2
  · have c1 : ¬ 49 = 18 + p := by omega
    have c2 : ¬ 49 = 26 + p := by omega
    have c3 : ¬ 49 = 34 + k := by omega
    have c4 : ¬ 49 = 39 + k := by omega
    have c5 : ¬ 49 = 44 + k := by omega
    simp only [upd, if_neg c1, if_neg c2, if_neg c3, if_neg c4, if_neg c5]
    simpa [up2] using r3
  · have c1 : ¬ 50 = 18 + p := by omega
    have c2 : ¬ 50 = 26 + p := by omega
    have c3 : ¬ 50 = 34 + k := by omega
    have c4 : ¬ 50 = 39 + k := by omega
    have c5 : ¬ 50 = 44 + k := by omega
    simp only [upd, if_neg c1, if_neg c2, if_neg c3, if_neg c4, if_neg c5]
    simpa [up2] using r4
  · have c1 : ¬ 51 = 18 + p := by omega
    have c2 : ¬ 51 = 26 + p := by omega
    have c3 : ¬ 51 = 34 + k := by omega
    have c4 : ¬ 51 = 39 + k := by omega
    have c5 : ¬ 51 = 44 + k := by omega
    simp only [upd, if_neg c1, if_neg c2, if_neg c3, if_neg c4, if_neg c5]
    simpa [up2] using r5
  · have c : ∀ u, (u = 2 ∨ u = 10) → ¬ u + q = 18 + p ∧ ¬ u + q = 26 + p ∧ ¬ u + q = 34 + k ∧ ¬ u + q = 39 + k ∧ ¬ u + q = 44 + k := fun u hu => by omega
    obtain ⟨c1, c2, c3, c4, c5⟩ := c 2 (Or.inl rfl)
    obtain ⟨d1, d2, d3, d4, d5⟩ := c 10 (Or.inr rfl)
    simp only [upd, if_neg c1, if_neg c2, if_neg c3, if_neg c4, if_neg c5, if_neg d1, if_neg d2, if_neg d3, if_neg d4, if_neg d5]
    simpa [up2] using r6 q hq
  · have c1 : ¬ 18 + q = 26 + p := by omega
    have c2 : ¬ 18 + q = 34 + k ∧ ¬ 18 + q = 39 + k ∧ ¬ 18 + q = 44 + k := by omega
    have c3 : ¬ 26 + q = 34 + k ∧ ¬ 26 + q = 39 + k ∧ ¬ 26 + q = 44 + k := by omega
    have c4 : (26 + q = 18 + p) = False := by simp; omega
    simp only [upd, if_neg c1, if_neg c2.1, if_neg c2.2.1, if_neg c2.2.2, if_neg c3.1, if_neg c3.2.1, if_neg c3.2.2, c4, if_false]
    by_cases hqp : q = p
    · subst hqp
      simp [up2]
    · have n1 : ¬ 18 + q = 18 + p := by omega
      have n2 : ¬ 26 + q = 26 + p := by omega
      simp only [if_neg n1, if_neg n2]
      simpa [up2, hqp] using r7 q hq
  · have c1 : ¬ 34 + q = 18 + p ∧ ¬ 34 + q = 26 + p ∧ ¬ 34 + q = 39 + k ∧ ¬ 34 + q = 44 + k := by omega
    have c2 : ¬ 39 + q = 18 + p ∧ ¬ 39 + q = 26 + p ∧ ¬ 39 + q = 34 + k ∧ ¬ 39 + q = 44 + k := by omega
    have c3 : ¬ 44 + q = 18 + p ∧ ¬ 44 + q = 26 + p ∧ ¬ 44 + q = 34 + k ∧ ¬ 44 + q = 39 + k := by omega
    simp only [upd, if_neg c1.1, if_neg c1.2.1, if_neg c1.2.2.1, if_neg c1.2.2.2, if_neg c2.1, if_neg c2.2.1, if_neg c2.2.2.1, if_neg c2.2.2.2, if_neg c3.1, if_neg c3.2.1, if_neg c3.2.2.1, if_neg c3.2.2.2]
    by_cases hqk : q = k
    · subst hqk
      simp [up2]
    · have n1 : ¬ 34 + q = 34 + k := by omega
      have n2 : ¬ 39 + q = 39 + k := by omega
      have n3 : ¬ 44 + q = 44 + k := by omega
      simp only [if_neg n1, if_neg n2, if_neg n3]
      simpa [up2, hqk] using r8 q hq
/-- hen i's turn, when there is one: what the loop's body comes to -/
theorem r_pl {z : YT} {x3 : Int32} (hth : z 0 10 = 0 ∨ z 0 10 = 1) (hx3 : x3 = if z 0 10 = 1 then 1 else 0) (i : Nat) : (Option.bind (α := Int32) (if ¬ x3 = 0 then some 0 else if ¬ z 5 i = 1 then some 1 else if ¬ z 0 9 - z 0 9 / 2 * 2 = 0 then some 0 else some 1) fun q3 => (if q3 = 0 then some (-1) else some (bsP τ z i (tP τ)).1)) = some (plP τ z i) := by
  unfold plP
  rw [hx3]
  rcases hth with hz | hz
  · rw [hz]
    by_cases h51 : z 5 i = 1
    · by_cases hr : z 0 9 - z 0 9 / 2 * 2 = 0
      · have hr' : rmd (z 0 9) 2 = 0 := hr
        simp [h51, hr, hr']
      · have hr' : ¬ rmd (z 0 9) 2 = 0 := hr
        simp [h51, hr, hr']
    · simp [h51]
  · rw [hz]
    simp
theorem ob_assoc {α γ β : Type} (X : Option α) (F : α → Option γ) (Gk : γ → Option β) : (Option.bind X fun q => Option.bind (F q) Gk) = Option.bind (Option.bind X F) Gk := by
  cases X <;> rfl
theorem r_step_none {β : Type} {kk : AH → Int32 → Int32 → Option β} {z : YT} {h : AH} {x2 x3 : Int32} {i f : Nat} (ha : RO a) (V : VT τ) (L : VL τ z) (hth : z 0 10 = 0 ∨ z 0 10 = 1) (hx3 : x3 = if z 0 10 = 1 then 1 else 0) (H : Lo h) (T : RT h τ) (K : RK τ h z) (R : RY τ (hI h a) z) (hin : i < tH τ) (hz : plP τ z i = -1) : L_X5_goes_46 145 a x3 kk (f + 1) h x2 (nI i) = L_X5_goes_46 145 a x3 kk f (sI h 156 i (-1)) x2 (nI (i + 1)) := by
  have v2 := V.2
  have hi : i < 5 := by omega
  have h5 : ¬ (5 : Int32) ≤ nI i := nI_ge (b := 5) hi (by omega)
  have h2 : ¬ (2 : Int32) = 0 := by decide
  have e5 : hI h 154 i = z 5 i := (K i hin).1
  have e0 : hI h a 0 = z 0 9 := R.1.1
  have hp := r_pl (τ := τ) hth hx3 i
  rw [hz] at hp
  conv => lhs; unfold L_X5_goes_46
  simp only [if_neg h5, o145_R0 H, o146_l25 H, Option.bind_some, T.2.1, if_neg (nI_ge hin (show tH τ < 2 ^ 31 by omega)), o145_R17 H, o145_R19 H, o154_ld H hi, e5, r_ld0 H ha, e0, rmI, if_neg h2, r_best H ha V L R K T hin]
  rw [ob_assoc, hp, Option.bind_some]
  simp only [o156_st H hi, Option.bind_some, nI_1, if_true]
theorem r_step_out {β : Type} {kk : AH → Int32 → Int32 → Option β} {h : AH} {x2 x3 : Int32} {i f : Nat} (V : VT τ) (H : Lo h) (T : RT h τ) (hin : ¬ i < tH τ) (hi : i < 5) : L_X5_goes_46 145 a x3 kk (f + 1) h x2 (nI i) = L_X5_goes_46 145 a x3 kk f (sI h 156 i (-1)) x2 (nI (i + 1)) := by
  have v2 := V.2
  have h5 : ¬ (5 : Int32) ≤ nI i := nI_ge (b := 5) hi (by omega)
  conv => lhs; unfold L_X5_goes_46
  simp only [if_neg h5, o145_R0 H, o146_l25 H, Option.bind_some, T.2.1, if_pos (nI_le (show tH τ ≤ i by omega) (show i < 2 ^ 31 by omega)), if_true, o145_R19 H, o156_st H hi, nI_1]
/-- what laying changes in the reference's row -/
def egT (τ : TT) (z : YT) (t : Nat → Int32) (i p : Nat) : Nat → Int32 := upd (upd (upd (upd (upd t (18 + p) (nI i)) (26 + p) (if rgB τ z p then 1 else 0)) (34 + i) (nI p)) (39 + i) (z 8 i + (if rgB τ z p then 1 else 0))) (44 + i) (z 9 i + (if rgB τ z p then 0 else 1))
theorem r_step_some {β : Type} {kk : AH → Int32 → Int32 → Option β} {z : YT} {h : AH} {x2 x3 : Int32} {i f p : Nat} (ha : RO a) (V : VT τ) (L : VL τ z) (hth : z 0 10 = 0 ∨ z 0 10 = 1) (hx3 : x3 = if z 0 10 = 1 then 1 else 0) (H : Lo h) (T : RT h τ) (K : RK τ h z) (R : RY τ (hI h a) z) (hin : i < tH τ) (hp : p < tP τ) (hz : plP τ z i = nI p) : L_X5_goes_46 145 a x3 kk (f + 1) h x2 (nI i) = L_X5_goes_46 145 a x3 kk f (sA (sI h 156 i (nI p)) a (egT τ z (hI h a) i p)) (x2 ||| (1 <<< (nI p &&& 31))) (nI (i + 1)) := by
  have v1 := V.1
  have v2 := V.2
  have hi : i < 5 := by omega
  have h5 : ¬ (5 : Int32) ≤ nI i := nI_ge (b := 5) hi (by omega)
  have h2 : ¬ (2 : Int32) = 0 := by decide
  have h14 : ¬ (14 : Int32) = 0 := by decide
  have q10 : ¬ (1 : Int32) = 0 := by decide
  have e5 : hI h 154 i = z 5 i := (K i hin).1
  have e0 : hI h a 0 = z 0 9 := R.1.1
  have hpl := r_pl (τ := τ) hth hx3 i
  rw [hz] at hpl
  have nd := (ro_not ha).2.2.2
  have hne : ¬ nI p = -1 := nI_m1 (by omega)
  have hbest := r_best H ha V L R K T hin
  obtain ⟨-, -, d, hd, ed⟩ := L
  conv => lhs; unfold L_X5_goes_46
  simp only [if_neg h5, o145_R0 H, o146_l25 H, Option.bind_some, T.2.1, if_neg (nI_ge hin (show tH τ < 2 ^ 31 by omega)), o145_R17 H, o145_R19 H, o154_ld H hi, e5, r_ld0 H ha, e0, rmI, if_neg h2, hbest]
  rw [ob_assoc, hpl, Option.bind_some]
  have H1 : Lo (sI h 156 i (nI p)) := H.sA _ _
  have er : nI d - nI d / 14 * 14 = nI (d % 14) := pk_rem (a := d) (d := 14) (by omega) (by omega) (by omega)
  have hm14 : d % 14 < 14 := Nat.mod_lt _ (by omega)
  have ea : hI (sI h 156 i (nI p)) a = hI h a := by rw [hI_sA, if_neg nd]
  have e146 : hI (sI h 156 i (nI p)) 146 = hI h 146 := by rw [hI_sA, if_neg (by decide)]
  have e16 : hI h 146 (36 + d % 14) = tY τ 6 (d % 14) := T.2.2.2.2 _ hm14
  have e1p : hI h a (2 + p) = z 1 p := (R.2.1 p hp).1
  have e0d : hI h a 0 = nI d := by rw [e0, ed]
  have hB : rgB τ z p = decide (tY τ 6 (d % 14) = z 1 p) := by unfold rgB; rw [ed, nI_clamp (by omega)]
  have e39 : hI h a (39 + i) = z 8 i := (R.2.2.2 i hi).2.1
  have e44 : hI h a (44 + i) = z 9 i := (R.2.2.2 i hi).2.2
  have b1 : 36 + d % 14 < 50 := by omega
  have b2 : 2 + p < 52 := by omega
  have b3 : 18 + p < 52 := by omega
  have b4 : 26 + p < 52 := by omega
  have b5 : 34 + i < 52 := by omega
  have b6 : 39 + i < 52 := by omega
  have b7 : 44 + i < 52 := by omega
  simp only [o156_st H hi, Option.bind_some, nI_1, if_neg hne, o145_R0 H1, r_ld0 H1 ha, ea, e0d, if_neg h14, er, al_36, al_2, al_18, al_26, al_34, al_39, al_44, o146_ld H1 b1, e146, e16, r_ld H1 ha b2, e1p, r_st H1 ha b3]
  unfold egT
  rw [hB]
  by_cases hr : tY τ 6 (d % 14) = z 1 p
  · rw [decide_eq_true hr]
    simp only [hr, not_true_eq_false, if_false, Option.bind_some, if_neg q10]
    rw [r_st (H1.sA _ _) ha b4, Option.bind_some, r_st ((H1.sA _ _).sA _ _) ha b5, Option.bind_some, r_ld (((H1.sA _ _).sA _ _).sA _ _) ha b6, Option.bind_some, r_st (((H1.sA _ _).sA _ _).sA _ _) ha b6, Option.bind_some, r_ld ((((H1.sA _ _).sA _ _).sA _ _).sA _ _) ha b7, Option.bind_some, r_st ((((H1.sA _ _).sA _ _).sA _ _).sA _ _) ha b7, Option.bind_some, Option.bind_some]
    simp only [sA_sA, hI_sA, if_true, if_neg nd]
    have w1 : upd (upd (upd (hI h a) (18 + p) (nI i)) (26 + p) 1) (34 + i) (nI p) (39 + i) = z 8 i := by
      simp only [upd, if_neg (show ¬ 39 + i = 34 + i by omega), if_neg (show ¬ 39 + i = 26 + p by omega), if_neg (show ¬ 39 + i = 18 + p by omega), e39]
    rw [w1]
    have w2 : upd (upd (upd (upd (hI h a) (18 + p) (nI i)) (26 + p) 1) (34 + i) (nI p)) (39 + i) (z 8 i + 1) (44 + i) = z 9 i := by
      simp only [upd, if_neg (show ¬ 44 + i = 39 + i by omega), if_neg (show ¬ 44 + i = 34 + i by omega), if_neg (show ¬ 44 + i = 26 + p by omega), if_neg (show ¬ 44 + i = 18 + p by omega), e44]
    rw [w2]
  · rw [decide_eq_false hr]
    simp only [hr, not_false_eq_true, if_true, Option.bind_some, Bool.false_eq_true, if_false]
    rw [r_st (H1.sA _ _) ha b4, Option.bind_some, r_st ((H1.sA _ _).sA _ _) ha b5, Option.bind_some, r_ld (((H1.sA _ _).sA _ _).sA _ _) ha b6, Option.bind_some, r_st (((H1.sA _ _).sA _ _).sA _ _) ha b6, Option.bind_some, r_ld ((((H1.sA _ _).sA _ _).sA _ _).sA _ _) ha b7, Option.bind_some, r_st ((((H1.sA _ _).sA _ _).sA _ _).sA _ _) ha b7, Option.bind_some, Option.bind_some]
    simp only [sA_sA, hI_sA, if_true, if_neg nd]
    have w1 : upd (upd (upd (hI h a) (18 + p) (nI i)) (26 + p) 0) (34 + i) (nI p) (39 + i) = z 8 i := by
      simp only [upd, if_neg (show ¬ 39 + i = 34 + i by omega), if_neg (show ¬ 39 + i = 26 + p by omega), if_neg (show ¬ 39 + i = 18 + p by omega), e39]
    rw [w1]
    have w2 : upd (upd (upd (upd (hI h a) (18 + p) (nI i)) (26 + p) 0) (34 + i) (nI p)) (39 + i) (z 8 i + 0) (44 + i) = z 9 i := by
      simp only [upd, if_neg (show ¬ 44 + i = 39 + i by omega), if_neg (show ¬ 44 + i = 34 + i by omega), if_neg (show ¬ 44 + i = 26 + p by omega), if_neg (show ¬ 44 + i = 18 + p by omega), e44]
    rw [w2]
theorem r_goes_loop {β : Type} {kk : AH → Int32 → Int32 → Option β} (ha : RO a) (V : VT τ) (L : VL τ y) (hth : y 0 10 = 0 ∨ y 0 10 = 1) {x3 : Int32} (hx3 : x3 = if y 0 10 = 1 then 1 else 0) : ∀ (m i f : Nat) (h : AH) (z : YT) (x2 : Int32), Lo h → RT h τ → RK τ h y → z = dyP τ y (min i (tH τ)) → x2 = ebP z 8 → RY τ (hI h a) z → (∀ j, j < i → hI h 156 j = laP τ y j) → i + m = 5 → m < f →
    ∃ h' x', L_X5_goes_46 145 a x3 kk f h x2 (nI i) = kk h' x' (nI 5) ∧ x' = ebP (dyP τ y (tH τ)) 8 ∧ Fs h h' [a, 156] ∧ RY τ (hI h' a) (dyP τ y (tH τ)) ∧ ∀ j, j < 5 → hI h' 156 j = laP τ y j := by
  have v1 := V.1
  have v2 := V.2
  obtain ⟨na, nb, nc, nd⟩ := ro_not ha
  intro m
  induction m with
  | zero =>
    intro i f h z x2 H T K ez ex R La e hf
    obtain ⟨f, rfl⟩ : ∃ g, f = g + 1 := ⟨f - 1, by omega⟩
    have hi : i = 5 := by omega
    subst hi
    have hmin : min 5 (tH τ) = tH τ := by omega
    rw [hmin] at ez
    subst ez
    refine ⟨h, x2, ?_, ex, Fs.refl _ _, R, La⟩
    conv => lhs; unfold L_X5_goes_46
    rw [if_pos (by decide)]
  | succ m ih =>
    intro i f h z x2 H T K ez ex R La e hf
    obtain ⟨f, rfl⟩ : ∃ g, f = g + 1 := ⟨f - 1, by omega⟩
    have hi : i < 5 := by omega
    have laid : ∀ v : Int32, v = laP τ y i → ∀ j, j < i + 1 → hI (sI h 156 i v) 156 j = laP τ y j := by
      intro v hv j hj
      rw [hI_sA, if_pos rfl]
      unfold upd
      by_cases hji : j = i
      · rw [if_pos hji, hji, hv]
      · rw [if_neg hji]
        exact La j (by omega)
    by_cases hin : i < tH τ
    · have hmin : min i (tH τ) = i := by omega
      have hmin1 : min (i + 1) (tH τ) = i + 1 := by omega
      rw [hmin] at ez
      have K' : RK τ h z := by rw [ez]; exact K.dy i
      have L' : VL τ z := by rw [ez]; exact L.dy i
      have e10 : z 0 10 = y 0 10 := by rw [ez, dyP_row τ y 0 (Or.inl rfl)]
      have hl : laP τ y i = plP τ z i := by rw [ez]; exact if_pos hin
      have hn : dyP τ y (i + 1) = hnP τ z i := by rw [ez]; rfl
      rcases plP_place V z i with hz | ⟨p, hp, hz, hz3⟩
      · rw [r_step_none ha V L' (by rw [e10]; exact hth) (by rw [e10]; exact hx3) H T K' R hin hz]
        have F1 : Fs h (sI h 156 i (-1)) [a, 156] := (Fs.refl h _).sA (by simp)
        have hn2 : dyP τ y (i + 1) = z := by rw [hn]; unfold hnP; rw [if_pos hz]
        obtain ⟨h', x', g1, g2, g3, g4, g5⟩ := ih (i + 1) f _ z x2 (H.fs F1) (T.fs F1 na) (K.fs F1 nb nc) (by rw [hmin1, hn2]) ex (R.laid ha _) (laid _ (by rw [hl, hz])) (by omega) (by omega)
        exact ⟨h', x', g1, g2, F1.trans g3, g4, g5⟩
      · rw [r_step_some ha V L' (by rw [e10]; exact hth) (by rw [e10]; exact hx3) H T K' R hin hp hz]
        have hne : ¬ nI p = -1 := nI_m1 (by omega)
        have hn2 : dyP τ y (i + 1) = egP τ z i p := by rw [hn]; unfold hnP; rw [if_neg (by rw [hz]; exact hne), hz, nI_clamp (by omega)]
        have RE : RY τ (egT τ z (hI h a) i p) (egP τ z i p) := R.egg V hin hp
        have F1 : Fs h (sA (sI h 156 i (nI p)) a (egT τ z (hI h a) i p)) [a, 156] := ((Fs.refl h _).sA (by simp)).sA (by simp)
        have heb : x2 ||| (1 <<< (nI p &&& 31)) = ebP (egP τ z i p) 8 := by
          rw [ex, ebP_up (y := z) (y' := egP τ z i p) (p := p) (v := nI i) hz3 (nI_m1 (by omega)) (fun q => by simp [egP, up2]) 8, if_pos (by omega)]
        have R2 : RY τ (hI (sA (sI h 156 i (nI p)) a (egT τ z (hI h a) i p)) a) (egP τ z i p) := by rw [hI_sA, if_pos rfl]; exact RE
        have La2 : ∀ j, j < i + 1 → hI (sA (sI h 156 i (nI p)) a (egT τ z (hI h a) i p)) 156 j = laP τ y j := by
          intro j hj
          rw [hI_sA, if_neg (fun z => nd z.symm)]
          exact laid (nI p) (by rw [hl, hz]) j hj
        obtain ⟨h', x', g1, g2, g3, g4, g5⟩ := ih (i + 1) f _ (egP τ z i p) _ (H.fs F1) (T.fs F1 na) (K.fs F1 nb nc) (by rw [hmin1, hn2]) heb R2 La2 (by omega) (by omega)
        exact ⟨h', x', g1, g2, F1.trans g3, g4, g5⟩
    · rw [r_step_out V H T hin hi]
      have F1 : Fs h (sI h 156 i (-1)) [a, 156] := (Fs.refl h _).sA (by simp)
      have hl : laP τ y i = -1 := if_neg hin
      have hmin : min i (tH τ) = min (i + 1) (tH τ) := by omega
      obtain ⟨h', x', g1, g2, g3, g4, g5⟩ := ih (i + 1) f _ z x2 (H.fs F1) (T.fs F1 na) (K.fs F1 nb nc) (by rw [← hmin, ez]) ex (R.laid ha _) (laid _ hl.symm) (by omega) (by omega)
      exact ⟨h', x', g1, g2, F1.trans g3, g4, g5⟩
theorem RY.clear {h : AH} (R : RY τ (hI h a) y) (V : VT τ) : RY τ (fun j => if 18 + 0 ≤ j ∧ j < 26 then -1 else if 26 + 0 ≤ j ∧ j < 34 then 0 else hI h a j) (dyP τ y 0) := by
  have v1 := V.1
  obtain ⟨⟨r1, r2, r3, r4, r5⟩, r6, r7, r8⟩ := R
  unfold dyP
  refine ⟨⟨?_, ?_, ?_, ?_, ?_⟩, fun q hq => ?_, fun q hq => ?_, fun q hq => ?_⟩
  · simpa [upR] using r1
  · simpa [upR] using r2
  · simpa [upR] using r3
  · simpa [upR] using r4
  · simpa [upR] using r5
  · have := r6 q hq
    refine ⟨?_, ?_⟩
    · show (if 18 + 0 ≤ 2 + q ∧ 2 + q < 26 then (-1 : Int32) else if 26 + 0 ≤ 2 + q ∧ 2 + q < 34 then 0 else hI h a (2 + q)) = _
      rw [if_neg (by omega), if_neg (by omega), upR_ne (by decide), upR_ne (by decide)]
      exact this.1
    · show (if 18 + 0 ≤ 10 + q ∧ 10 + q < 26 then (-1 : Int32) else if 26 + 0 ≤ 10 + q ∧ 10 + q < 34 then 0 else hI h a (10 + q)) = _
      rw [if_neg (by omega), if_neg (by omega), upR_ne (by decide), upR_ne (by decide)]
      exact this.2
  · refine ⟨?_, ?_⟩
    · show (if 18 + 0 ≤ 18 + q ∧ 18 + q < 26 then (-1 : Int32) else if 26 + 0 ≤ 18 + q ∧ 18 + q < 34 then 0 else hI h a (18 + q)) = _
      rw [if_pos (by omega), upR_ne (by decide), upR_eq]
    · show (if 18 + 0 ≤ 26 + q ∧ 26 + q < 26 then (-1 : Int32) else if 26 + 0 ≤ 26 + q ∧ 26 + q < 34 then 0 else hI h a (26 + q)) = _
      rw [if_neg (by omega), if_pos (by omega), upR_eq]
  · have := r8 q hq
    refine ⟨?_, ?_, ?_⟩
    · show (if 18 + 0 ≤ 34 + q ∧ 34 + q < 26 then (-1 : Int32) else if 26 + 0 ≤ 34 + q ∧ 34 + q < 34 then 0 else hI h a (34 + q)) = _
      rw [if_neg (by omega), if_neg (by omega), upR_ne (by decide), upR_ne (by decide)]
      exact this.1
    · show (if 18 + 0 ≤ 39 + q ∧ 39 + q < 26 then (-1 : Int32) else if 26 + 0 ≤ 39 + q ∧ 39 + q < 34 then 0 else hI h a (39 + q)) = _
      rw [if_neg (by omega), if_neg (by omega), upR_ne (by decide), upR_ne (by decide)]
      exact this.2.1
    · show (if 18 + 0 ≤ 44 + q ∧ 44 + q < 26 then (-1 : Int32) else if 26 + 0 ≤ 44 + q ∧ 44 + q < 34 then 0 else hI h a (44 + q)) = _
      rw [if_neg (by omega), if_neg (by omega), upR_ne (by decide), upR_ne (by decide)]
      exact this.2.2
/-- a DAY, on the reference's side -/
theorem r_goes {h : AH} (H : Lo h) (ha : RO a) (V : VT τ) (L : VL τ y) (hth : y 0 10 = 0 ∨ y 0 10 = 1) (R : RY τ (hI h a) y) (K : RK τ h y) (T : RT h τ) : ∃ h', F_X5_goes h 145 a = some (ebP (dayP τ y) 8, h') ∧ Fs h h' [a, 156] ∧ RY τ (hI h' a) (dayP τ y) ∧ ∀ j, j < 5 → hI h' 156 j = laP τ y j := by
  have v1 := V.1
  have v2 := V.2
  obtain ⟨na, nb, nc, nd⟩ := ro_not ha
  have RC := R.clear V
  have F1 : Fs h (sA h a (fun j => if 18 + 0 ≤ j ∧ j < 26 then -1 else if 26 + 0 ≤ j ∧ j < 34 then 0 else hI h a j)) [a, 156] := (Fs.refl h _).sA (by simp)
  have hc := fun kk => r_clear_loop (β := Int32 × AH) (kk := kk) ha 8 0 FU h H (by omega) (by unfold FU; omega)
  rw [nI_0] at hc
  unfold F_X5_goes
  rw [o145_ck H, Option.bind_some, hc]
  have H1 := H.fs F1
  have R1 : RY τ (hI (sA h a (fun j => if 18 + 0 ≤ j ∧ j < 26 then -1 else if 26 + 0 ≤ j ∧ j < 34 then 0 else hI h a j)) a) (dyP τ y 0) := by rw [hI_sA, if_pos rfl]; exact RC
  generalize hg : sA h a (fun j => if 18 + 0 ≤ j ∧ j < 26 then -1 else if 26 + 0 ≤ j ∧ j < 34 then 0 else hI h a j) = h1 at F1 H1 R1
  have e1 : hI h1 a 1 = y 0 10 := by
    have := R1.1.2.1
    rw [dyP_row τ y 0 (Or.inl rfl)] at this
    exact this
  have hq6 : (if ¬ hI h1 a 1 = 1 then some (0 : Int32) else some 1) = some (if y 0 10 = 1 then 1 else 0) := by
    rw [e1]
    by_cases hz : y 0 10 = 1
    · rw [if_neg (not_not_intro hz), if_pos hz]
    · rw [if_pos hz, if_neg hz]
  rw [r_ld1 H1 ha, Option.bind_some, hq6, Option.bind_some]
  have hmin0 : min 0 (tH τ) = 0 := by omega
  have hb0 : (0 : Int32) = ebP (dyP τ y 0) 8 := (ebP_0 (y := dyP τ y 0) (fun q => by simp [dyP, upR]) 8).symm
  obtain ⟨h2, x', g1, g2, g3, g4, g5⟩ := r_goes_loop (kk := fun h29 y30 _ => Option.bind (stA h29 a 10 1 0) fun h32 => Option.bind (ldA h32 a 10 0) fun v33 => Option.bind (stA h32 a 10 0 (v33 + 1)) fun h34 => some (y30, h34)) ha V L hth (x3 := if y 0 10 = 1 then 1 else 0) rfl 5 0 FU h1 (dyP τ y 0) 0 H1 (T.fs F1 na) (K.fs F1 nb nc) (by rw [hmin0]) hb0 R1 (fun j hj => absurd hj (Nat.not_lt_zero j)) (by omega) (by unfold FU; omega)
  rw [nI_0] at g1
  rw [g1]
  have H2 := H1.fs g3
  have e9 : hI (sI h2 a 1 0) a 0 = y 0 9 := by
    rw [hI_sA, if_pos rfl]
    show (if 0 = 1 then (0 : Int32) else hI h2 a 0) = _
    rw [if_neg (by decide), g4.1.1, dyP_row τ y 0 (Or.inl rfl)]
  rw [r_st1 H2 ha, Option.bind_some, r_ld0 (H2.sA _ _) ha, Option.bind_some, e9, r_st0 (H2.sA _ _) ha, Option.bind_some]
  have hx : x' = ebP (dayP τ y) 8 := by
    rw [g2]
    exact (ebP_congr (y := dyP τ y (tH τ)) (y' := dayP τ y) (fun q => by unfold dayP; rw [up2_ne (by omega), up2_ne (by omega)]) 8).symm
  refine ⟨_, by rw [hx], ((F1.trans g3).sA (by simp)).sA (by simp), ?_, fun j hj => ?_⟩
  · rw [hI_sA, if_pos rfl, hI_sA, if_pos rfl]
    obtain ⟨⟨r1, r2, r3, r4, r5⟩, r6, r7, r8⟩ := g4
    unfold dayP
    refine ⟨⟨?_, ?_, ?_, ?_, ?_⟩, fun q hq => ?_, fun q hq => ?_, fun q hq => ?_⟩
    · simp [upd, up2]
    · simp [upd, up2]
    · simpa [upd, up2] using r3
    · simpa [upd, up2] using r4
    · simpa [upd, up2] using r5
    · have := r6 q hq
      simp only [upd, if_neg (show ¬ 2 + q = 0 by omega), if_neg (show ¬ 2 + q = 1 by omega), if_neg (show ¬ 10 + q = 0 by omega), if_neg (show ¬ 10 + q = 1 by omega)]
      simpa [up2] using this
    · have := r7 q hq
      simp only [upd, if_neg (show ¬ 18 + q = 0 by omega), if_neg (show ¬ 18 + q = 1 by omega), if_neg (show ¬ 26 + q = 0 by omega), if_neg (show ¬ 26 + q = 1 by omega)]
      simpa [up2] using this
    · have := r8 q hq
      simp only [upd, if_neg (show ¬ 34 + q = 0 by omega), if_neg (show ¬ 34 + q = 1 by omega), if_neg (show ¬ 39 + q = 0 by omega), if_neg (show ¬ 39 + q = 1 by omega), if_neg (show ¬ 44 + q = 0 by omega), if_neg (show ¬ 44 + q = 1 by omega)]
      simpa [up2] using this
  · rw [hI_sA, if_neg (fun z => nd z.symm), hI_sA, if_neg (fun z => nd z.symm)]
    exact g5 j hj
end RGOES
