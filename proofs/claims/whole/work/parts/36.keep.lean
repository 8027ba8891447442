/-! undo, keep, back, forget, seen, write, erase -/
def wK (σ : SG) (b : Nat → Bool) (K : Nat → YT) : SG := (zT σ, zY σ, (zM σ, zP σ), (b, K), (zN σ, zD σ), (zL σ, zX σ))
def wN (σ : SG) (n : Nat) (D : Nat → Nat → Int32) : SG := (zT σ, zY σ, (zM σ, zP σ), (zB σ, zK σ), (n, D), (zL σ, zX σ))
def wL (σ : SG) (l : Nat) (X : Nat → Int32) : SG := (zT σ, zY σ, (zM σ, zP σ), (zB σ, zK σ), (zN σ, zD σ), (l, X))
section KEEP
variable {σ : SG}
theorem op_undo (V : VI σ) : Op (fun h => F_X4_undo h 0) (fun h => F_X5_undo h 145) σ := by
  have hm8 := V.2.2.1.1
  by_cases hm : zM σ = 0
  · refine Op.const (-4) V (fun h H C => ?_) (fun h H R => ?_)
    · have e6 : hI h 0 6 = 0 := by rw [C.2.2.1.1, hm]; rfl
      have l0 : (0 : Int32) ≤ 0 := by decide
      unfold F_X4_undo
      simp only [o0_ck H, o0_gI H, Option.bind_some, e6, l0, if_true]
    · have e4 : hI h 145 4 = 0 := by rw [R.2.2.1.1, hm]; rfl
      unfold F_X5_undo
      simp only [o145_ck H, o145_gI H, Option.bind_some, e4, not_true_eq_false, if_false]
  · obtain ⟨m, em⟩ : ∃ m, zM σ = m + 1 := ⟨zM σ - 1, by omega⟩
    have V' : VI (wY (wM σ m (zP σ)) (zP σ m)) := by
      obtain ⟨v1, v2, ⟨v3, v4⟩, v5, v6, v7⟩ := V
      exact ⟨v1, v4 m (by omega), ⟨by show m ≤ 8; omega, fun i hi => v4 i (by have hi : i < m := hi; omega)⟩, v5, v6, v7⟩
    refine ⟨nI m, wY (wM σ m (zP σ)) (zP σ m), V', fun h H C => ?_, fun h H R => ?_⟩
    · have V1 : VI (wM σ m (zP σ)) := by
        obtain ⟨v1, v2, ⟨v3, v4⟩, v5, v6, v7⟩ := V
        exact ⟨v1, v2, ⟨by show m ≤ 8; omega, fun i hi => v4 i (by have hi : i < m := hi; omega)⟩, v5, v6, v7⟩
      obtain ⟨c1, c2, ⟨c3, π, p1, p2, p3⟩, c4, c5, c6⟩ := C
      have e6 : hI h 0 6 = nI (m + 1) := by rw [c3, em]
      have H1 : Lo (sI h 0 6 (nI m)) := H.sA _ _
      have F1 : Fr h (sI h 0 6 (nI m)) 0 1 := (Fr.refl h _ _).sA (by omega) (by omega)
      have e61 : hI (sI h 0 6 (nI m)) 0 6 = nI m := by
        rw [hI_sA, if_pos rfl]
        unfold upd
        rw [if_pos rfl]
      have C1 : CI (sI h 0 6 (nI m)) (wM σ m (zP σ)) := ⟨c1.fr F1 (Or.inr (by omega)), c2.fr F1 (Or.inr (by omega)), ⟨e61, π, p1, p2, fun i hi => (p3 i (by have hi : i < m := hi; omega)).fr F1 (Or.inr (by omega))⟩, c4.fr F1 (by omega) (by omega), c5.fr F1 (by omega), c6.fr F1 (by omega)⟩
      have cm : CY (zT σ) (Yc (sI h 0 6 (nI m)) (45 + 10 * π m)) (zP σ m) := (p3 m (by omega)).fr F1 (Or.inr (by omega))
      obtain ⟨h2, k1, k2, k3⟩ := c_copy H1 yo_17 (yo_past (p1 m (by omega)).1) (by omega) V.1.1 cm (V.2.2.1.2 m (by omega)).2.1
      obtain ⟨m1, m2⟩ := c_setNow (σ := wM σ m (zP σ)) H1 C1 V1 k2 k3
      have e62 : hI h2 0 6 = nI m := by rw [k2.2.2.2 0 (by omega)]; exact e61
      have eR : ldR (sI h 0 6 (nI m)) 37 (nI m) = some (45 + 10 * π m) := o37_ld H1 (by omega) (p1 m (by omega)).2
      refine ⟨h2, ?_, m1, (F1.c H (by omega)).trans m2⟩
      unfold F_X4_undo
      simp only [o0_ck H, o0_gI H, Option.bind_some, e6, if_neg (nI_nle (show 0 < m + 1 by omega) (show m + 1 < 2 ^ 31 by omega)), if_pos (show nI (m + 1) ≤ 8 from nI_le (b := 8) (by omega) (by omega)), nI_pred, o0_pI H, o0_R3 H1, o0_R5 H1, o0_gI H1, e61, eR, k1, o0_gI (H1.fr k2), e62]
    · have R0 := R
      obtain ⟨r1, r2, ⟨r3, r4⟩, r5, r6, r7⟩ := R
      have e4 : hI h 145 4 = nI (m + 1) := by rw [r3, em]
      have H1 : Lo (sI h 145 4 (nI m)) := H.sA _ _
      have F1 : Fs h (sI h 145 4 (nI m)) [145] := (Fs.refl h _).sA (by decide)
      have e41 : hI (sI h 145 4 (nI m)) 145 4 = nI m := by
        rw [hI_sA, if_pos rfl]
        unfold upd
        rw [if_pos rfl]
      have u : ∀ j, j ≠ 4 → hI (sI h 145 4 (nI m)) 145 j = hI h 145 j := fun j hj => by
        rw [hI_sA, if_pos rfl]
        unfold upd
        rw [if_neg hj]
      obtain ⟨q1, q2, q3, q4, q5⟩ := R0.parts F1 (by decide)
      have e149 : hI (sI h 145 4 (nI m)) 149 = hI h 149 := by rw [hI_sA, if_neg (by decide)]
      have R1 : RI (sI h 145 4 (nI m)) (wM σ m (zP σ)) := ⟨q1, q2, ⟨e41, fun i hi => by
        have hi : i < m := hi
        show RY (zT σ) (fun j => hI (sI h 145 4 (nI m)) 149 (52 * i + j)) (zP σ i)
        rw [e149]
        exact r4 i (by omega)⟩, q3, ⟨(u 10 (by decide)).trans r6.1, q4⟩, ⟨(u 8 (by decide)).trans r7.1, q5⟩⟩
      have e1 : F_X5_copies (sI h 145 4 (nI m)) 149 (nI (52 * m)) 148 0 52 = some _ := copies_ok (52 * m) 0 52 H1 ls_149 ls_148 (by decide) (by omega) (by decide) (by decide) (by decide)
      have F2 : Fs (sI h 145 4 (nI m)) (sA (sI h 145 4 (nI m)) 148 (fun q => if 0 ≤ q ∧ q < 0 + 52 then hI (sI h 145 4 (nI m)) 149 (52 * m + (q - 0)) else hI (sI h 145 4 (nI m)) 148 q)) [148] := (Fs.refl _ _).sA (by decide)
      have Ry : RY (zT σ) (hI (sA (sI h 145 4 (nI m)) 148 (fun q => if 0 ≤ q ∧ q < 0 + 52 then hI (sI h 145 4 (nI m)) 149 (52 * m + (q - 0)) else hI (sI h 145 4 (nI m)) 148 q)) 148) (zP σ m) := by
        rw [hI_sA, if_pos rfl]
        refine (r4 m (by omega)).of V.1.1 (fun j hj => ?_)
        show (if 0 ≤ j ∧ j < 0 + 52 then hI (sI h 145 4 (nI m)) 149 (52 * m + (j - 0)) else hI (sI h 145 4 (nI m)) 148 j) = hI h 149 (52 * m + j)
        rw [if_pos (by omega), e149]
        rfl
      obtain ⟨m1, m2⟩ := r_setNow (σ := wM σ m (zP σ)) H1 R1 F2 (by decide) Ry
      have e42 : hI (sA (sI h 145 4 (nI m)) 148 (fun q => if 0 ≤ q ∧ q < 0 + 52 then hI (sI h 145 4 (nI m)) 149 (52 * m + (q - 0)) else hI (sI h 145 4 (nI m)) 148 q)) 145 4 = nI m := by rw [hI_sA, if_neg (by decide)]; exact e41
      refine ⟨_, ?_, m1, (F1.r H (by decide)).trans m2⟩
      unfold F_X5_undo
      simp only [o145_ck H, o145_gI H, Option.bind_some, e4, nI_ne0 (show 0 < m + 1 by omega) (show m + 1 < 2 ^ 31 by omega), not_false_eq_true, if_true, nI_pred, o145_pI H, o145_R3 H1, o145_gI H1, e41, o145_R2 H1, ml_52, e1, o145_gI (H1.fs F2), e42]
theorem ix2 (x : Int32) : (¬ ((0 : Int32) ≤ x ∧ x ≤ 1) ∧ (x < 0 ∨ ¬ x < 2)) ∨ ∃ k, k < 2 ∧ x = nI k := by
  rcases ixs x (n := 2) (by omega) with h | h
  · refine Or.inl ⟨?_, ?_⟩
    · have e2 : (nI 2).toInt = 2 := by decide
      have e1 : (1 : Int32).toInt = 1 := by decide
      simp only [Int32.le_iff_toInt_le, Int32.lt_iff_toInt_lt, e2, e1] at h ⊢
      omega
    · rcases h with h | h
      · exact Or.inl h
      · refine Or.inr ?_
        have h : (2 : Int32) ≤ x := h
        rw [Int32.le_iff_toInt_le] at h
        rw [Int32.lt_iff_toInt_lt]
        omega
  · exact Or.inr h
theorem two_in : ∀ k, k < 2 → (0 : Int32) ≤ nI k ∧ nI k ≤ 1 := by decide
theorem two_lt : ∀ k, k < 2 → ¬ nI k < 0 ∧ nI k < 2 := by decide
theorem vn_1 : vp_nar .boolean 1 = 1 := by decide
theorem vn_0 : vp_nar .boolean 0 = 0 := by decide
theorem op_keep (V : VI σ) (a : Int32) : Op (fun h => F_X4_keep h 0 a) (fun h => F_X5_keep h 145 a) σ := by
  have q10 : ¬ (1 : Int32) = 0 := by decide
  rcases ix2 a with ⟨hn, hx⟩ | ⟨k, hk, rfl⟩
  · refine Op.const (-2) V (fun h H C => ?_) (fun h H R => ?_)
    · unfold F_X4_keep
      by_cases h0 : a < 0
      · simp only [o0_ck H, Option.bind_some, h0, if_true]
      · have h2 := hx.resolve_left h0
        simp only [o0_ck H, Option.bind_some, h0, h2, if_false]
    · unfold F_X5_keep
      simp only [o145_ck H, Option.bind_some, r_two, if_neg hn, not_true_eq_false, if_false]
  · have V' : VI (wK σ (fun i => if i = k then true else zB σ i) (fun i => if i = k then zY σ else zK σ i)) := by
      obtain ⟨v1, v2, v3, v5, v6, v7⟩ := V
      refine ⟨v1, v2, v3, fun i hi hb => ?_, v6, v7⟩
      show VY (zT σ) (if i = k then zY σ else zK σ i)
      by_cases hik : i = k
      · rw [if_pos hik]; exact v2
      · rw [if_neg hik]
        refine v5 i hi ?_
        have hb : (if i = k then true else zB σ i) = true := hb
        rw [if_neg hik] at hb
        exact hb
    refine ⟨zY σ 0 9, _, V', fun h H C => ?_, fun h H R => ?_⟩
    · obtain ⟨c1, c2, ⟨c3, π, p1, p2, p3⟩, c4, c5, c6⟩ := C
      obtain ⟨h1, k1, k2, k3⟩ := c_copy H (yo_kept hk) yo_17 (by omega) V.1.1 c2 V.2.1.2.1
      have H1 := H.fr k2
      have F2 : Fr h1 (sI h1 39 k 1) 39 40 := (Fr.refl h1 _ _).sA (by omega) (by omega)
      have H2 := H1.fr F2
      have e9 : hI (sI h1 39 k 1) 17 9 = zY σ 0 9 := by
        rw [hI_sA, if_neg (by decide), k2.2.2.2 17 (by omega)]
        exact c2.1 9 (by omega) (by omega)
      refine ⟨sI h1 39 k 1, ?_, ⟨(c1.fr k2 (Or.inl (by omega))).fr F2 (Or.inl (by omega)), (c2.fr k2 (Or.inl (by omega))).fr F2 (Or.inl (by omega)), ⟨?_, π, fun i hi => ?_, p2, fun i hi => ?_⟩, fun i hi => ⟨?_, fun hb => ?_⟩, (c5.fr k2 (by omega)).fr F2 (by omega), (c6.fr k2 (by omega)).fr F2 (by omega)⟩, (k2.c H (by omega)).trans (F2.c H1 (by omega))⟩
      · unfold F_X4_keep
        simp only [o0_ck H, Option.bind_some, (two_lt k hk).1, (two_lt k hk).2, if_false, if_true, o0_R7 H, o38_ld H hk, o0_R3 H, k1, o0_R8 H1, vn_1, o39_st H1 hk, o0_R3 H2, y_gI H2 yo_17, e9]
      · show hI (sI h1 39 k 1) 0 6 = nI (zM σ)
        rw [hI_sA, if_neg (by decide), k2.2.2.2 0 (by omega)]; exact c3
      · have : hR (sI h1 39 k 1) 37 i = hR h 37 i := congrFun (congrFun k2.2.2.1 37) i
        rw [this]; exact p1 i hi
      · have hi : i < zM σ := hi
        have := V.2.2.1.1
        have hpi := (p1 i (by omega)).1
        exact ((p3 i hi).fr k2 (Or.inl (by omega))).fr F2 (Or.inr (by omega))
      · show hI (sI h1 39 k 1) 39 i = bI (if i = k then true else zB σ i)
        rw [hI_sA, if_pos rfl]
        unfold upd
        by_cases hik : i = k
        · rw [if_pos hik, if_pos hik]; rfl
        · rw [if_neg hik, if_neg hik, k2.2.2.2 39 (by omega)]; exact (c4 i hi).1
      · show CY (zT σ) (Yc (sI h1 39 k 1) (125 + 10 * i)) (if i = k then zY σ else zK σ i)
        have hb : (if i = k then true else zB σ i) = true := hb
        by_cases hik : i = k
        · rw [if_pos hik, hik]; exact k3.fr F2 (Or.inr (by omega))
        · rw [if_neg hik] at hb ⊢
          exact (((c4 i hi).2 hb).fr k2 (by omega)).fr F2 (Or.inr (by omega))
    · obtain ⟨r1, r2, ⟨r3, r4⟩, r5, r6, r7⟩ := R
      have e1 : F_X5_copies h 148 0 150 (nI (52 * k)) 52 = some _ := copies_ok 0 (52 * k) 52 H ls_148 ls_150 (by decide) (by decide) (by omega) (by decide) (by decide)
      have F1 : Fs h (sA h 150 (fun q => if 52 * k ≤ q ∧ q < 52 * k + 52 then hI h 148 (0 + (q - 52 * k)) else hI h 150 q)) [150, 151] := (Fs.refl h _).sA (by decide)
      have H1 := H.fs F1
      generalize hg : sA h 150 (fun q => if 52 * k ≤ q ∧ q < 52 * k + 52 then hI h 148 (0 + (q - 52 * k)) else hI h 150 q) = h1 at e1 F1 H1
      have e150 : hI h1 150 = fun q => if 52 * k ≤ q ∧ q < 52 * k + 52 then hI h 148 (0 + (q - 52 * k)) else hI h 150 q := by rw [← hg, hI_sA, if_pos rfl]
      have F2 : Fs h (sI h1 151 k 1) [150, 151] := F1.sA (by decide)
      have H2 := H.fs F2
      have e : ∀ q, q ∉ [150, 151] → hI (sI h1 151 k 1) q = hI h q := fun q hq => F2.2.2.2 q hq
      have e0 : hI (sI h1 151 k 1) 148 0 = zY σ 0 9 := by rw [e 148 (by decide)]; exact r2.1.1
      refine ⟨sI h1 151 k 1, ?_, ⟨?_, ?_, ⟨?_, ?_⟩, fun i hi => ⟨?_, fun hb => ?_⟩, ?_, ?_⟩, F2.r H (by decide)⟩
      · unfold F_X5_keep
        simp only [o145_ck H, Option.bind_some, r_two, if_pos (two_in k hk), q10, not_false_eq_true, if_true, o145_R2 H, o145_R5 H, ml_52, e1, o145_R6 H1, vn_1, o151_st H1 hk, o145_R2 H2, r_ld0 H2 ro_148, e0]
      · unfold RT at r1 ⊢; rw [e 146 (by decide)]; exact r1
      · rw [e 148 (by decide)]; exact r2
      · rw [e 145 (by decide)]; exact r3
      · unfold PastR at r4 ⊢; rw [e 149 (by decide)]; exact r4
      · show hI (sI h1 151 k 1) 151 i = bI (if i = k then true else zB σ i)
        rw [hI_sA, if_pos rfl]
        unfold upd
        have e151 : hI h1 151 = hI h 151 := by rw [← hg, hI_sA, if_neg (by decide)]
        by_cases hik : i = k
        · rw [if_pos hik, if_pos hik]; rfl
        · rw [if_neg hik, if_neg hik, e151]; exact (r5 i hi).1
      · show RY (zT σ) (fun j => hI (sI h1 151 k 1) 150 (52 * i + j)) (if i = k then zY σ else zK σ i)
        have hb : (if i = k then true else zB σ i) = true := hb
        have e150' : hI (sI h1 151 k 1) 150 = hI h1 150 := by rw [hI_sA, if_neg (by decide)]
        rw [e150', e150]
        by_cases hik : i = k
        · rw [if_pos hik]
          refine r2.of V.1.1 (fun j hj => ?_)
          show (if 52 * k ≤ 52 * i + j ∧ 52 * i + j < 52 * k + 52 then hI h 148 (0 + (52 * i + j - 52 * k)) else hI h 150 (52 * i + j)) = hI h 148 j
          rw [if_pos (by omega)]
          congr 1
          omega
        · rw [if_neg hik] at hb ⊢
          refine ((r5 i hi).2 hb).of V.1.1 (fun j hj => ?_)
          show (if 52 * k ≤ 52 * i + j ∧ 52 * i + j < 52 * k + 52 then hI h 148 (0 + (52 * i + j - 52 * k)) else hI h 150 (52 * i + j)) = hI h 150 (52 * i + j)
          rw [if_neg (by omega)]
      · unfold SeenR at r6 ⊢; rw [e 145 (by decide), e 153 (by decide)]; exact r6
      · unfold TextR at r7 ⊢; rw [e 145 (by decide), e 152 (by decide)]; exact r7
theorem op_back (V : VI σ) (a : Int32) : Op (fun h => F_X4_back h 0 a) (fun h => F_X5_back h 145 a) σ := by
  have q10 : ¬ (1 : Int32) = 0 := by decide
  rcases ix2 a with ⟨hn, hx⟩ | ⟨k, hk, rfl⟩
  · refine Op.const (-2) V (fun h H C => ?_) (fun h H R => ?_)
    · unfold F_X4_back
      by_cases h0 : a < 0
      · simp only [o0_ck H, Option.bind_some, h0, if_true]
      · have h2 := hx.resolve_left h0
        simp only [o0_ck H, Option.bind_some, h0, h2, if_false]
    · unfold F_X5_back
      simp only [o145_ck H, Option.bind_some, r_two, if_neg hn, not_true_eq_false, if_false]
  · cases hb : zB σ k with
    | false =>
      refine Op.const (-4) V (fun h H C => ?_) (fun h H R => ?_)
      · have e : hI h 39 k = 0 := by rw [(C.2.2.2.1 k hk).1, hb]; rfl
        unfold F_X4_back
        simp only [o0_ck H, Option.bind_some, (two_lt k hk).1, (two_lt k hk).2, if_false, if_true, o0_R8 H, o39_ld H hk, e, not_true_eq_false]
      · have e : hI h 151 k = 0 := by rw [(R.2.2.2.1 k hk).1, hb]; rfl
        unfold F_X5_back
        simp only [o145_ck H, Option.bind_some, r_two, if_pos (two_in k hk), q10, not_false_eq_true, if_true, o145_R6 H, o151_ld H hk, e, not_true_eq_false, if_false]
    | true =>
      have W := V.2.2.2.1 k hk hb
      have V1 : VI (wM σ 0 (zP σ)) := by
        obtain ⟨v1, v2, ⟨v3, v4⟩, v5, v6, v7⟩ := V
        exact ⟨v1, v2, ⟨by show 0 ≤ 8; omega, fun i hi => absurd hi (Nat.not_lt_zero i)⟩, v5, v6, v7⟩
      refine ⟨zK σ k 0 9, wY (wM σ 0 (zP σ)) (zK σ k), V1.now W, fun h H C => ?_, fun h H R => ?_⟩
      · have e39 : hI h 39 k = 1 := by rw [(C.2.2.2.1 k hk).1, hb]; rfl
        have C0 := C
        obtain ⟨h1, k1, k2, k3⟩ := c_copy H yo_17 (yo_kept hk) (by omega) V.1.1 ((C.2.2.2.1 k hk).2 hb) W.2.1
        have H1 := H.fr k2
        obtain ⟨m1, m2⟩ := c_setNow H C V k2 k3
        have F2 : Fr h1 (sI h1 0 6 0) 0 1 := (Fr.refl h1 _ _).sA (by omega) (by omega)
        have H2 := H1.fr F2
        obtain ⟨c1, c2, ⟨c3, π, p1, p2, p3⟩, c4, c5, c6⟩ := m1
        have e9 : hI (sI h1 0 6 0) 17 9 = zK σ k 0 9 := by
          rw [hI_sA, if_neg (by decide)]
          exact k3.1 9 (by omega) (by omega)
        refine ⟨sI h1 0 6 0, ?_, ⟨c1.fr F2 (Or.inr (by omega)), c2.fr F2 (Or.inr (by omega)), ⟨?_, π, p1, p2, fun i hi => absurd hi (Nat.not_lt_zero i)⟩, c4.fr F2 (by omega) (by omega), c5.fr F2 (by omega), c6.fr F2 (by omega)⟩, m2.trans (F2.c H1 (by omega))⟩
        · unfold F_X4_back
          simp only [o0_ck H, Option.bind_some, (two_lt k hk).1, (two_lt k hk).2, if_false, if_true, o0_R8 H, o39_ld H hk, e39, q10, not_false_eq_true, o0_R3 H, o0_R7 H, o38_ld H hk, k1, o0_pI H1, o0_R3 H2, y_gI H2 yo_17, e9]
        · show hI (sI h1 0 6 0) 0 6 = nI 0
          rw [hI_sA, if_pos rfl]
          unfold upd
          rw [if_pos rfl]
          rfl
      · have e151 : hI h 151 k = 1 := by rw [(R.2.2.2.1 k hk).1, hb]; rfl
        have e1 : F_X5_copies h 150 (nI (52 * k)) 148 0 52 = some _ := copies_ok (52 * k) 0 52 H ls_150 ls_148 (by decide) (by omega) (by decide) (by decide) (by decide)
        have F1 : Fs h (sA h 148 (fun q => if 0 ≤ q ∧ q < 0 + 52 then hI h 150 (52 * k + (q - 0)) else hI h 148 q)) [148] := (Fs.refl h _).sA (by decide)
        have Ry : RY (zT σ) (hI (sA h 148 (fun q => if 0 ≤ q ∧ q < 0 + 52 then hI h 150 (52 * k + (q - 0)) else hI h 148 q)) 148) (zK σ k) := by
          rw [hI_sA, if_pos rfl]
          refine ((R.2.2.2.1 k hk).2 hb).of V.1.1 (fun j hj => ?_)
          show (if 0 ≤ j ∧ j < 0 + 52 then hI h 150 (52 * k + (j - 0)) else hI h 148 j) = hI h 150 (52 * k + j)
          rw [if_pos (by omega)]
          rfl
        obtain ⟨m1, m2⟩ := r_setNow H R F1 (by decide) Ry
        have H1 := H.fs F1
        generalize hg : sA h 148 (fun q => if 0 ≤ q ∧ q < 0 + 52 then hI h 150 (52 * k + (q - 0)) else hI h 148 q) = h1 at e1 F1 H1 m1 m2 Ry
        have F2 : Fs h1 (sI h1 145 4 0) [145] := (Fs.refl h1 _).sA (by decide)
        have H2 := H1.fs F2
        obtain ⟨q1, q2, q3, q4, q5⟩ := m1.parts F2 (by decide)
        have u : ∀ j, j ≠ 4 → hI (sI h1 145 4 0) 145 j = hI h1 145 j := fun j hj => by
          rw [hI_sA, if_pos rfl]
          unfold upd
          rw [if_neg hj]
        have e0 : hI (sI h1 145 4 0) 148 0 = zK σ k 0 9 := by rw [hI_sA, if_neg (by decide)]; exact Ry.1.1
        refine ⟨sI h1 145 4 0, ?_, ⟨q1, q2, ⟨?_, fun i hi => absurd hi (Nat.not_lt_zero i)⟩, q3, ⟨(u 10 (by decide)).trans m1.2.2.2.2.1.1, q4⟩, ⟨(u 8 (by decide)).trans m1.2.2.2.2.2.1, q5⟩⟩, m2.trans (F2.r H1 (by decide))⟩
        · unfold F_X5_back
          simp only [o145_ck H, Option.bind_some, r_two, if_pos (two_in k hk), q10, not_false_eq_true, if_true, o145_R6 H, o151_ld H hk, e151, o145_R5 H, o145_R2 H, ml_52, e1, o145_pI H1, o145_R2 H2, r_ld0 H2 ro_148, e0]
        · show hI (sI h1 145 4 0) 145 4 = nI 0
          rw [hI_sA, if_pos rfl]
          unfold upd
          rw [if_pos rfl]
          rfl
end KEEP
