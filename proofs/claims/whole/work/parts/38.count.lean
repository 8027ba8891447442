/-! count -/
def smP (f : Nat → Int32) : Nat → Int32
  | 0 => 0
  | n + 1 => smP f n + f n
section COUNT
variable {σ : SG}
theorem c_sum_loop {h : AH} {q : Nat} {f : Nat → Int32} {β : Type} {kk : Int32 → Int32 → Option β} (H : Lo h) (hq : q < 158 ∧ lyS q = (10, 5)) (hf : ∀ k, k < 5 → hI h q k = f k) : ∀ (m i g : Nat), i + m = 5 → m < g → L_X4_sum_4 h q kk g (smP f i) (nI i) = kk (smP f 5) (nI 5) := by
  intro m
  induction m with
  | zero =>
    intro i g e hg
    obtain ⟨g, rfl⟩ : ∃ z, g = z + 1 := ⟨g - 1, by omega⟩
    have hi : i = 5 := by omega
    subst hi
    conv => lhs; unfold L_X4_sum_4
    rw [op_lnA H hq.1 hq.2, Option.bind_some, if_pos (by decide)]
  | succ m ih =>
    intro i g e hg
    obtain ⟨g, rfl⟩ : ∃ z, g = z + 1 := ⟨g - 1, by omega⟩
    conv => lhs; unfold L_X4_sum_4
    rw [op_lnA H hq.1 hq.2, Option.bind_some, if_neg (nI_ge (by omega) (by omega)), op_ldA H hq.1 hq.2 (by omega) (by omega), Option.bind_some, hf i (by omega), nI_1]
    exact ih (i + 1) g (by omega) (by omega)
theorem c_sum {h : AH} {q : Nat} {f : Nat → Int32} (H : Lo h) (hq : q < 158 ∧ lyS q = (10, 5)) (hf : ∀ k, k < 5 → hI h q k = f k) : F_X4_sum h q = some (smP f 5) := by
  unfold F_X4_sum
  exact c_sum_loop H hq hf 5 0 FU (by omega) (by unfold FU; omega)
theorem r_cnt1 {h : AH} {x1 x3 x4 : Int32} {β : Type} {kk : Int32 → Int32 → Option β} {y : YT} (H : Lo h) (hy : ∀ p, p < 8 → hI h 148 (18 + p) = y 3 p) : ∀ (m i g : Nat), i + m = 8 → m < g → L_X5_count_10 h 145 x1 x3 x4 kk g (ebP y i) (nI i) = kk (ebP y 8) (nI 8) := by
  intro m
  induction m with
  | zero =>
    intro i g e hg
    obtain ⟨g, rfl⟩ : ∃ z, g = z + 1 := ⟨g - 1, by omega⟩
    have hi : i = 8 := by omega
    subst hi
    conv => lhs; unfold L_X5_count_10
    rw [if_pos (by decide)]
  | succ m ih =>
    intro i g e hg
    obtain ⟨g, rfl⟩ : ∃ z, g = z + 1 := ⟨g - 1, by omega⟩
    have h8 : ¬ (8 : Int32) ≤ nI i := nI_ge (b := 8) (by omega) (by omega)
    have go := ih (i + 1) g (by omega) (by omega)
    have hb : ebP y (i + 1) = if y 3 i = -1 then ebP y i else ebP y i ||| (1 <<< (nI i &&& 31)) := rfl
    conv => lhs; unfold L_X5_count_10
    rw [if_neg h8, o145_R2 H, Option.bind_some, al_18, o148_ld H (by omega), Option.bind_some, hy i (by omega), nI_1]
    by_cases he : y 3 i = -1
    · rw [if_neg (not_not_intro he), Option.bind_some, Int32.or_zero]
      rw [hb, if_pos he] at go
      exact go
    · rw [if_pos he, Option.bind_some]
      rw [hb, if_neg he] at go
      exact go
theorem r_cnt2 {h : AH} {x1 x2 : Int32} {β : Type} {kk : Int32 → Int32 → Int32 → Option β} {y : YT} (H : Lo h) (hy : ∀ p, p < 5 → hI h 148 (39 + p) = y 8 p ∧ hI h 148 (44 + p) = y 9 p) : ∀ (m i g : Nat), i + m = 5 → m < g → L_X5_count_51 h 145 x1 x2 kk g (smP (y 8) i) (smP (y 9) i) (nI i) = kk (smP (y 8) 5) (smP (y 9) 5) (nI 5) := by
  intro m
  induction m with
  | zero =>
    intro i g e hg
    obtain ⟨g, rfl⟩ : ∃ z, g = z + 1 := ⟨g - 1, by omega⟩
    have hi : i = 5 := by omega
    subst hi
    conv => lhs; unfold L_X5_count_51
    rw [if_pos (by decide)]
  | succ m ih =>
    intro i g e hg
    obtain ⟨g, rfl⟩ : ∃ z, g = z + 1 := ⟨g - 1, by omega⟩
    have h8 : ¬ (5 : Int32) ≤ nI i := nI_ge (b := 5) (by omega) (by omega)
    conv => lhs; unfold L_X5_count_51
    rw [if_neg h8, o145_R2 H, Option.bind_some, al_39, o148_ld H (by omega), Option.bind_some, Option.bind_some, al_44, o148_ld H (by omega), Option.bind_some, (hy i (by omega)).1, (hy i (by omega)).2, nI_1]
    exact ih (i + 1) g (by omega) (by omega)
def cnP (σ : SG) (b : Int32) : Int32 :=
  if b = 0 then nI (tP (zT σ)) else if b = 1 then nI (tH (zT σ)) else if b = 2 then zY σ 0 9 else if b = 3 then ebP (zY σ) 8 else if b = 4 then zY σ 0 11 else if b = 5 then zY σ 0 12 else if b = 6 then zY σ 0 13 + 9999 else if b = 7 then smP (zY σ 8) 5 else if b = 8 then smP (zY σ 9) 5 else if b = 9 then zY σ 0 10 else if b = 10 then nI (zN σ) else if b = 11 then nI (zM σ) else if b = 12 then nI (zL σ) else -3
theorem op_count (V : VI σ) (b : Int32) : Op (fun h => Option.bind (F_X4_count h 0 b) fun v => some (v, h)) (fun h => Option.bind (F_X5_count h 145 b) fun v => some (v, h)) σ := by
  refine Op.const (cnP σ b) V (fun h H C => ?_) (fun h H R => ?_)
  · have e0 := C.2.1.1
    have e9 : hI h 17 9 = zY σ 0 9 := e0 9 (by omega) (by omega)
    have e10 : hI h 17 10 = zY σ 0 10 := e0 10 (by omega) (by omega)
    have e11 : hI h 17 11 = zY σ 0 11 := e0 11 (by omega) (by omega)
    have e12 : hI h 17 12 = zY σ 0 12 := e0 12 (by omega) (by omega)
    have e13 : hI h 17 13 = zY σ 0 13 := e0 13 (by omega) (by omega)
    have s8 : F_X4_sum h (17 + 8) = some (smP (zY σ 8) 5) := c_sum H (y_ls8 yo_17) (fun k hk => (C.2.1.2.2.2.2 k hk).2.1)
    have s9 : F_X4_sum h (17 + 9) = some (smP (zY σ 9) 5) := c_sum H (y_ls9 yo_17) (fun k hk => (C.2.1.2.2.2.2 k hk).2.2)
    have ez : (if zY σ 0 10 = 0 then some (0 : Int32) else some 1) = some (zY σ 0 10) := by
      rcases V.2.1.2.1 with e | e
      · rw [e]; rfl
      · rw [e]; rfl
    unfold F_X4_count
    simp only [o0_ck H, o0_R0 H, o0_R1 H, o0_R3 H, o0_R9 H, o0_gI H, o1_gI H, o40_gI H, t_gI H to_3, y_gI H yo_17, y_R7 H yo_17, y_R8 H yo_17, c_eb H yo_17 C.2.1, Option.bind_some, C.1.1, C.1.2.1, e9, e10, e11, e12, e13, s8, s9, ez, C.2.2.2.2.1.1, C.2.2.1.1, C.2.2.2.2.2.1]
    unfold cnP
    by_cases h0 : b = 0
    · rw [if_pos h0, if_pos h0]; rfl
    · rw [if_neg h0, if_neg h0]
      by_cases h1 : b = 1
      · rw [if_pos h1, if_pos h1]; rfl
      · rw [if_neg h1, if_neg h1]
        by_cases h2 : b = 2
        · rw [if_pos h2, if_pos h2]; rfl
        · rw [if_neg h2, if_neg h2]
          by_cases h3 : b = 3
          · rw [if_pos h3, if_pos h3]; rfl
          · rw [if_neg h3, if_neg h3]
            by_cases h4 : b = 4
            · rw [if_pos h4, if_pos h4]; rfl
            · rw [if_neg h4, if_neg h4]
              by_cases h5 : b = 5
              · rw [if_pos h5, if_pos h5]; rfl
              · rw [if_neg h5, if_neg h5]
                by_cases h6 : b = 6
                · rw [if_pos h6, if_pos h6]; rfl
                · rw [if_neg h6, if_neg h6]
                  by_cases h7 : b = 7
                  · rw [if_pos h7, if_pos h7]; rfl
                  · rw [if_neg h7, if_neg h7]
                    by_cases h8 : b = 8
                    · rw [if_pos h8, if_pos h8]; rfl
                    · rw [if_neg h8, if_neg h8]
                      by_cases h9 : b = 9
                      · rw [if_pos h9, if_pos h9]; rfl
                      · rw [if_neg h9, if_neg h9]
                        by_cases h10 : b = 10
                        · rw [if_pos h10, if_pos h10]; rfl
                        · rw [if_neg h10, if_neg h10]
                          by_cases h11 : b = 11
                          · rw [if_pos h11, if_pos h11]; rfl
                          · rw [if_neg h11, if_neg h11]
                            by_cases h12 : b = 12
                            · rw [if_pos h12, if_pos h12]; rfl
                            · rw [if_neg h12, if_neg h12]
                              rfl
  · obtain ⟨e9, e10, e11, e12, e13⟩ := R.2.1.1
    have l49 : ldA h 148 10 (49 + 4 - 4) = some (hI h 148 49) := o148_ld (k := 49) H (by decide)
    have l50 : ldA h 148 10 (49 + 5 - 4) = some (hI h 148 50) := o148_ld (k := 50) H (by decide)
    have l51 : ldA h 148 10 51 = some (hI h 148 51) := o148_ld (k := 51) H (by decide)
    have L1' := fun (kk : Int32 → Int32 → Option Int32) => r_cnt1 (x1 := b) (x3 := 0) (x4 := 0) (kk := kk) (y := zY σ) H (fun p hp => (R.2.1.2.2.1 p hp).1) 8 0 FU (by omega) (by unfold FU; omega)
    have L2' := fun (x2 : Int32) (kk : Int32 → Int32 → Int32 → Option Int32) => r_cnt2 (x1 := b) (x2 := x2) (kk := kk) (y := zY σ) H (fun p hp => (R.2.1.2.2.2 p hp).2) 5 0 FU (by omega) (by unfold FU; omega)
    have z0 : ebP (zY σ) 0 = 0 := rfl
    have z1 : smP (zY σ 8) 0 = 0 := rfl
    have z2 : smP (zY σ 9) 0 = 0 := rfl
    rw [z0, nI_0] at L1'
    rw [z1, z2, nI_0] at L2'
    unfold F_X5_count
    rw [o145_ck H, Option.bind_some, L1', L2']
    simp only [o145_R0 H, o145_R2 H, o146_l0 H, o146_l25 H, r_ld0 H ro_148, r_ld1 H ro_148, l51, o145_gI H, Option.bind_some, R.1.1, R.1.2.1, e9, e10, e13, R.2.2.2.2.1.1, R.2.2.1.1, R.2.2.2.2.2.1]
    unfold cnP
    by_cases h4 : b = 4
    · subst h4
      simp only [l49, e11, Option.bind_some]
      rfl
    · by_cases h5 : b = 5
      · subst h5
        simp only [l50, e12, Option.bind_some]
        rfl
      · simp only [h4, h5, if_false]
        by_cases h0 : b = 0
        · rw [if_pos h0, if_pos h0]; rfl
        · rw [if_neg h0, if_neg h0]
          by_cases h1 : b = 1
          · rw [if_pos h1, if_pos h1]; rfl
          · rw [if_neg h1, if_neg h1]
            by_cases h2 : b = 2
            · rw [if_pos h2, if_pos h2]; rfl
            · rw [if_neg h2, if_neg h2]
              by_cases h3 : b = 3
              · rw [if_pos h3, if_pos h3]; rfl
              · rw [if_neg h3, if_neg h3]
                by_cases h6 : b = 6
                · rw [if_pos h6, if_pos h6]; rfl
                · rw [if_neg h6, if_neg h6]
                  by_cases h7 : b = 7
                  · rw [if_pos h7, if_pos h7]; rfl
                  · rw [if_neg h7, if_neg h7]
                    by_cases h8 : b = 8
                    · rw [if_pos h8, if_pos h8]; rfl
                    · rw [if_neg h8, if_neg h8]
                      by_cases h9 : b = 9
                      · rw [if_pos h9, if_pos h9]; rfl
                      · rw [if_neg h9, if_neg h9]
                        by_cases h10 : b = 10
                        · rw [if_pos h10, if_pos h10]; rfl
                        · rw [if_neg h10, if_neg h10]
                          by_cases h11 : b = 11
                          · rw [if_pos h11, if_pos h11]; rfl
                          · rw [if_neg h11, if_neg h11]
                            by_cases h12 : b = 12
                            · rw [if_pos h12, if_pos h12]; rfl
                            · rw [if_neg h12, if_neg h12]
                              rfl
end COUNT
