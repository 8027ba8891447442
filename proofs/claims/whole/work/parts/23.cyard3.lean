/-! the class's yards: copies, a new beginning, where an egg is, eggs by bits -/
section CYARD3
variable {h : AH} {o t : Nat} {τ : TT} {y : YT}
theorem c_copy {o1 : Nat} (H : Lo h) (ho : YO o) (ho1 : YO o1) (hne : o ≠ o1) (V : VT τ) (C : CY τ (Yc h o1) y) (hth : y 0 10 = 0 ∨ y 0 10 = 1) : ∃ h', F_X3_copyFrom h o o1 = some h' ∧ Fr h h' o (o + 10) ∧ CY τ (Yc h' o) y := by
  have ap := yo_apart ho ho1 hne
  have v1 := V.1
  have v2 := V.2
  obtain ⟨c0, c1, c3, c5, c7⟩ := C
  have e9 : hI h o1 9 = y 0 9 := c0 9 (by omega) (by omega)
  have e10 : hI h o1 10 = y 0 10 := c0 10 (by omega) (by omega)
  have e11 : hI h o1 11 = y 0 11 := c0 11 (by omega) (by omega)
  have e12 : hI h o1 12 = y 0 12 := c0 12 (by omega) (by omega)
  have e13 : hI h o1 13 = y 0 13 := c0 13 (by omega) (by omega)
  have n0 : ∀ i, i < 10 → ¬ o1 = o + i := fun i hi => by omega
  have n00 : ¬ o1 = o := by omega
  unfold F_X3_copyFrom
  simp only [y_ck H ho, y_R0, y_R1, y_R2, y_R3, y_R4, y_R5, y_R6, y_R7, y_R8, cp8, cp5, and_self, y_gI, y_pI, y_pZ, Option.bind_some, Lo_sA, H, ho, ho1, y_ls1 ho, y_ls2 ho, y_ls3 ho, y_ls4 ho, y_ls5 ho, y_ls6 ho, y_ls7 ho, y_ls8 ho, y_ls9 ho, y_ls1 ho1, y_ls2 ho1, y_ls3 ho1, y_ls4 ho1, y_ls5 ho1, y_ls6 ho1, y_ls7 ho1, y_ls8 ho1, y_ls9 ho1, hI_sA, n0 1 (by omega), n0 2 (by omega), n0 3 (by omega), n0 4 (by omega), n0 5 (by omega), n0 6 (by omega), n0 7 (by omega), n0 8 (by omega), n0 9 (by omega), n00, if_false, e9, e10, e11, e12, e13, hth]
  refine ⟨_, rfl, ?_, ?_⟩
  · repeat refine Fr.sA ?_ (by omega) (by omega)
    exact Fr.refl _ _ _
  · refine ⟨fun j h1 h2 => ?_, fun q hq => ?_, fun q hq => ?_, fun q hq => ?_, fun q hq => ?_⟩
    · have hj : j = 9 ∨ j = 10 ∨ j = 11 ∨ j = 12 ∨ j = 13 := by omega
      rcases hj with e | e | e | e | e <;> subst e <;> simp [Yc, hI_sA, upd]
    · have := c1 q hq
      have hq8 : q < 8 := by omega
      have a1 : ∀ i a, i < 10 → ¬ o1 + i = o + a ∨ 10 ≤ a := fun i a hi => by omega
      have b1 : ¬ o1 + 2 = o + 1 := by omega
      simp [Yc, hI_sA, cpy0 hq8, b1] at this ⊢
      exact this
    · have := c3 q hq
      have b1 : ¬ o1 + 3 = o + 1 := by omega
      have b2 : ¬ o1 + 3 = o + 2 := by omega
      have b3 : ¬ o1 + 4 = o + 1 := by omega
      have b4 : ¬ o1 + 4 = o + 2 := by omega
      have b5 : ¬ o1 + 4 = o + 3 := by omega
      simp [Yc, hI_sA, cpy0 hq, b1, b2, b3, b4, b5] at this ⊢
      exact this
    · have := c5 q hq
      have hq5 : q < 5 := by omega
      have b1 : ∀ i a, i < 10 → a < 10 → ¬ o1 + i = o + a := fun i a hi ha => by omega
      simp [Yc, hI_sA, cpy0 hq5, b1] at this ⊢
      exact this
    · have := c7 q hq
      have b1 : ∀ i a, i < 10 → a < 10 → ¬ o1 + i = o + a := fun i a hi ha => by omega
      simp [Yc, hI_sA, cpy0 hq, b1] at this ⊢
      exact this
/-- a yard as a text begins it -/
def bgP (τ : TT) : YT := fun i j => if i = 1 then tY τ 1 j else if i = 2 then tY τ 2 j else if i = 3 then -1 else if i = 5 then tY τ 4 j else if i = 6 then tY τ 5 j else if i = 7 then -1 else 0
theorem c_begin (H : Lo h) (ho : YO o) (ht : TO t) (V : VT τ) (T : CT h t τ) : ∃ h', F_X3_beginAs h o t = some h' ∧ Fr h h' o (o + 10) ∧ CY τ (Yc h' o) (bgP τ) := by
  have ylt := yo_lt ho
  have tlt := to_lt ht
  have v1 := V.1
  have v2 := V.2
  obtain ⟨t1, t2, t3, t4, t5⟩ := T
  have b1 : ∀ i a, i < 7 → ¬ t + i = o + a := fun i a hi => by omega
  have hz0 : (0 : Int32) = 0 ∨ (0 : Int32) = 1 := Or.inl rfl
  unfold F_X3_beginAs
  simp only [y_ck H ho, t_R2, t_R3, t_R5, t_R6, y_R0, y_R1, y_R2, y_R3, y_R4, y_R5, y_R6, y_R7, y_R8, cp8, cp5, and_self, fl8, fl5, y_gI, y_pI, y_pZ, Option.bind_some, Lo_sA, H, ho, ht, y_ls1 ho, y_ls2 ho, y_ls3 ho, y_ls4 ho, y_ls5 ho, y_ls6 ho, y_ls7 ho, y_ls8 ho, y_ls9 ho, t_ls1 ht, t_ls2 ht, t_ls4 ht, t_ls5 ht, true_or]
  refine ⟨_, rfl, ?_, ?_⟩
  · repeat refine Fr.sA ?_ (by omega) (by omega)
    exact Fr.refl _ _ _
  · refine ⟨fun j h1 h2 => ?_, fun q hq => ?_, fun q hq => ?_, fun q hq => ?_, fun q hq => ?_⟩
    · have hj : j = 9 ∨ j = 10 ∨ j = 11 ∨ j = 12 ∨ j = 13 := by omega
      rcases hj with e | e | e | e | e <;> subst e <;> simp [Yc, hI_sA, upd, bgP]
    · have := t3 q hq
      have hq8 : q < 8 := by omega
      simp [Yc, hI_sA, cpy0 hq8, b1, bgP]
      exact ⟨this.1, this.2.1⟩
    · simp [Yc, hI_sA, hq, bgP]
    · have := t4 q hq
      have hq5 : q < 5 := by omega
      have nto : ¬ t = o := by omega
      simp [Yc, hI_sA, cpy0 hq5, b1, bgP, nto]
      exact this
    · simp [Yc, hI_sA, hq, bgP]
theorem c_poe_loop (H : Lo h) (ho : YO o) (C : CY τ (Yc h o) y) (x : Int32) {kk : Int32 → Option Int32} : ∀ (m i f : Nat), i + m = 8 → m < f → (∀ p, p < i → ¬ y 3 p = x) → (L_X3_placeOfEgg_2 h o x kk f (nI i) = kk (nI 8) ∧ ∀ p, p < 8 → ¬ y 3 p = x) ∨ ∃ p, p < 8 ∧ y 3 p = x ∧ (∀ q, q < p → ¬ y 3 q = x) ∧ L_X3_placeOfEgg_2 h o x kk f (nI i) = some (nI p) := by
  intro m
  induction m with
  | zero =>
    intro i f e hf hb
    obtain ⟨f, rfl⟩ : ∃ g, f = g + 1 := ⟨f - 1, by omega⟩
    have hi : i = 8 := by omega
    subst hi
    refine Or.inl ⟨?_, hb⟩
    unfold L_X3_placeOfEgg_2
    rw [if_pos (by decide)]
  | succ m ih =>
    intro i f e hf hb
    obtain ⟨f, rfl⟩ : ∃ g, f = g + 1 := ⟨f - 1, by omega⟩
    have hi : i < 8 := by omega
    have e3 : hI h (o + 3) i = y 3 i := (C.2.2.1 i hi).1
    have h8 : ¬ (8 : Int32) ≤ nI i := nI_ge (b := 8) hi (by omega)
    unfold L_X3_placeOfEgg_2
    simp only [if_neg h8, y_R2 H ho, Option.bind_some, y_ld3 H ho hi, e3, nI_1]
    by_cases hx : y 3 i = x
    · simp only [hx, not_true_eq_false, if_false]
      exact Or.inr ⟨i, hi, hx, hb, rfl⟩
    · simp only [hx, not_false_eq_true, if_true]
      refine ih (i + 1) f (by omega) (by omega) (fun p hp => ?_)
      by_cases hpi : p = i
      · subst hpi; exact hx
      · exact hb p (by omega)
/-- the place of hen x's egg: the first one, or none -/
theorem c_poe (H : Lo h) (ho : YO o) (C : CY τ (Yc h o) y) (x : Int32) : (F_X3_placeOfEgg h o x = some (-1) ∧ ∀ p, p < 8 → ¬ y 3 p = x) ∨ ∃ p, p < 8 ∧ y 3 p = x ∧ F_X3_placeOfEgg h o x = some (nI p) := by
  unfold F_X3_placeOfEgg
  rw [y_ck H ho, Option.bind_some]
  rcases c_poe_loop (kk := fun _ => some (-1)) H ho C x 8 0 FU (by omega) (by unfold FU; omega) (fun p hp => absurd hp (Nat.not_lt_zero p)) with ⟨a, b⟩ | ⟨p, a, b, c, d⟩
  · exact Or.inl ⟨a, b⟩
  · exact Or.inr ⟨p, a, b, d⟩
/-- eggs by bits -/
def ebP (y : YT) : Nat → Int32
  | 0 => 0
  | n + 1 => if y 3 n = -1 then ebP y n else ebP y n ||| (1 <<< (nI n &&& 31))
theorem c_eb_loop (H : Lo h) (ho : YO o) (C : CY τ (Yc h o) y) {β : Type} {kk : Int32 → Int32 → Option β} : ∀ (m i f : Nat), i + m = 8 → m < f → L_X3_eggBits_4 h o kk f (ebP y i) (nI i) = kk (ebP y 8) (nI 8) := by
  intro m
  induction m with
  | zero =>
    intro i f e hf
    obtain ⟨f, rfl⟩ : ∃ g, f = g + 1 := ⟨f - 1, by omega⟩
    have hi : i = 8 := by omega
    subst hi
    unfold L_X3_eggBits_4
    rw [if_pos (by decide)]
  | succ m ih =>
    intro i f e hf
    obtain ⟨f, rfl⟩ : ∃ g, f = g + 1 := ⟨f - 1, by omega⟩
    have hi : i < 8 := by omega
    have e3 : hI h (o + 3) i = y 3 i := (C.2.2.1 i hi).1
    have h8 : ¬ (8 : Int32) ≤ nI i := nI_ge (b := 8) hi (by omega)
    have go := ih (i + 1) f (by omega) (by omega)
    have hb : ebP y (i + 1) = if y 3 i = -1 then ebP y i else ebP y i ||| (1 <<< (nI i &&& 31)) := rfl
    rw [hb] at go
    unfold L_X3_eggBits_4
    simp only [if_neg h8, y_R2 H ho, Option.bind_some, y_ld3 H ho hi, e3, nI_1]
    by_cases hx : y 3 i = -1
    · simp only [hx, if_true, Option.bind_some] at go ⊢
      exact go
    · simp only [hx, if_false, Option.bind_some] at go ⊢
      exact go
theorem c_eb (H : Lo h) (ho : YO o) (C : CY τ (Yc h o) y) : F_X3_eggBits h o = some (ebP y 8) := by
  unfold F_X3_eggBits
  rw [y_ck H ho, Option.bind_some]
  exact c_eb_loop H ho C 8 0 FU (by omega) (by unfold FU; omega)
end CYARD3
