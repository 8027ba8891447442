/-! remembered on the reference's side; a yard changed -/
theorem ar_52 (k : Nat) : nI k + 52 = nI (k + 52) := nI_add k 52
theorem ml_52 (k : Nat) : (52 : Int32) * nI k = nI (52 * k) := pk_mul 52 k
theorem shift_loop {β : Type} {kk : AH → Int32 → Option β} : ∀ (m i f : Nat) (h : AH), Lo h → i + m = 364 → m < f → L_X5_remember_11 145 kk f h (nI i) = kk (sA h 149 (fun q => if i ≤ q ∧ q < 364 then hI h 149 (q + 52) else hI h 149 q)) (nI 364) := by
  intro m
  induction m with
  | zero =>
    intro i f h H e hf
    obtain ⟨f, rfl⟩ : ∃ g, f = g + 1 := ⟨f - 1, by omega⟩
    have hi : i = 364 := by omega
    subst hi
    conv => lhs; unfold L_X5_remember_11
    rw [if_pos (by decide), sA_eq (funext fun q => if_neg (by omega))]
  | succ m ih =>
    intro i f h H e hf
    obtain ⟨f, rfl⟩ : ∃ g, f = g + 1 := ⟨f - 1, by omega⟩
    have h8 : ¬ (364 : Int32) ≤ nI i := nI_ge (b := 364) (by omega) (by omega)
    conv => lhs; unfold L_X5_remember_11
    rw [if_neg h8, o145_R3 H, Option.bind_some, Option.bind_some, ar_52, o149_ld H (by omega), Option.bind_some, o149_st H (by omega), Option.bind_some, nI_1, ih (i + 1) f _ (H.sA _ _) (by omega) (by omega), sA_sA]
    congr 2
    funext q
    simp only [hI_sA, if_true, upd]
    by_cases hq : q = i
    · rw [if_neg (by omega), if_pos hq, if_pos (by omega), hq]
    · by_cases h2 : i ≤ q ∧ q < 364
      · rw [if_pos (by omega), if_neg (by omega), if_pos h2]
      · rw [if_neg (by omega), if_neg hq, if_neg h2]
theorem RI.parts {h h' : AH} {σ : SG} (R : RI h σ) {S : List Nat} (F : Fs h h' S) (hS : ∀ q ∈ S, q ∈ [145, 149]) : RT h' (zT σ) ∧ RY (zT σ) (hI h' 148) (zY σ) ∧ KeptR h' (zT σ) (zB σ) (zK σ) ∧ (∀ i, i < zN σ → hI h' 153 (3 * i) = zD σ i 0 ∧ hI h' 153 (3 * i + 1) = zD σ i 1 ∧ hI h' 153 (3 * i + 2) = zD σ i 2) ∧ ∀ i, i < zL σ → hI h' 152 i = zX σ i := by
  obtain ⟨r1, r2, ⟨r3, r4⟩, r5, r6, r7⟩ := R
  have e : ∀ q, q ∉ [145, 149] → hI h' q = hI h q := fun q hq => F.2.2.2 q (fun z => hq (hS q z))
  refine ⟨?_, ?_, ?_, ?_, ?_⟩
  · unfold RT at r1 ⊢; rw [e 146 (by decide)]; exact r1
  · rw [e 148 (by decide)]; exact r2
  · unfold KeptR at r5 ⊢; rw [e 150 (by decide), e 151 (by decide)]; exact r5
  · rw [e 153 (by decide)]; exact r6.2
  · rw [e 152 (by decide)]; exact r7.2
theorem r_push {h : AH} {σ : SG} (H : Lo h) (V : VI σ) (R : RI h σ) (hm : zM σ < 8) : ∃ h', (Option.bind (gtR h 145 5 2) fun r9 => Option.bind (gtR h 145 5 3) fun r10 => Option.bind (gtI h 145 5 4) fun v11 => Option.bind (F_X5_copies h r9 0 r10 (52 * v11) 52) fun h12 => Option.bind (gtI h12 145 5 4) fun v13 => Option.bind (ptI h12 145 5 4 (v13 + 1)) fun h14 => some h14) = some h' ∧ RI h' (wM σ (zM σ + 1) (fun i => if i = zM σ then zY σ else zP σ i)) ∧ FrR h h' := by
  have R0 := R
  obtain ⟨r1, r2, ⟨r3, r4⟩, r5, r6, r7⟩ := R
  have e1 : F_X5_copies h 148 0 149 (nI (52 * zM σ)) 52 = some _ := copies_ok 0 (52 * zM σ) 52 H ls_148 ls_149 (by decide) (by decide) (by omega) (by decide) (by decide)
  have F1 : Fs h (sA h 149 (fun q => if 52 * zM σ ≤ q ∧ q < 52 * zM σ + 52 then hI h 148 (0 + (q - 52 * zM σ)) else hI h 149 q)) [145, 149] := (Fs.refl h _).sA (by decide)
  have H1 := H.fs F1
  generalize hg : sA h 149 (fun q => if 52 * zM σ ≤ q ∧ q < 52 * zM σ + 52 then hI h 148 (0 + (q - 52 * zM σ)) else hI h 149 q) = h1 at e1 F1 H1
  have e145 : hI h1 145 = hI h 145 := by rw [← hg, hI_sA, if_neg (by decide)]
  have e149 : hI h1 149 = fun q => if 52 * zM σ ≤ q ∧ q < 52 * zM σ + 52 then hI h 148 (0 + (q - 52 * zM σ)) else hI h 149 q := by rw [← hg, hI_sA, if_pos rfl]
  have e4 : hI h1 145 4 = nI (zM σ) := by rw [e145]; exact r3
  have F2 : Fs h (sI h1 145 4 (nI (zM σ + 1))) [145, 149] := F1.sA (by decide)
  obtain ⟨q1, q2, q3, q4, q5⟩ := R0.parts F2 (by decide)
  rw [o145_R2 H, Option.bind_some, o145_R3 H, Option.bind_some, o145_gI H, Option.bind_some, r3, ml_52, e1, Option.bind_some, o145_gI H1, Option.bind_some, e4, nI_1, o145_pI H1, Option.bind_some]
  have u : ∀ j, j ≠ 4 → hI (sI h1 145 4 (nI (zM σ + 1))) 145 j = hI h 145 j := fun j hj => by
    rw [hI_sA, if_pos rfl]
    unfold upd
    rw [if_neg hj, e145]
  refine ⟨_, rfl, ⟨q1, q2, ⟨?_, fun i hi => ?_⟩, q3, ⟨(u 10 (by decide)).trans r6.1, q4⟩, ⟨(u 8 (by decide)).trans r7.1, q5⟩⟩, F2.r H (by decide)⟩
  · show hI (sI h1 145 4 (nI (zM σ + 1))) 145 4 = nI (zM σ + 1)
    rw [hI_sA, if_pos rfl]
    unfold upd
    rw [if_pos rfl]
  · have hi : i < zM σ + 1 := hi
    show RY (zT σ) (fun j => hI (sI h1 145 4 (nI (zM σ + 1))) 149 (52 * i + j)) (if i = zM σ then zY σ else zP σ i)
    by_cases hin : i = zM σ
    · rw [if_pos hin]
      refine r2.of V.1.1 (fun j hj => ?_)
      show hI (sI h1 145 4 (nI (zM σ + 1))) 149 (52 * i + j) = hI h 148 j
      rw [hI_sA, if_neg (by decide), e149, hin]
      show (if 52 * zM σ ≤ 52 * zM σ + j ∧ 52 * zM σ + j < 52 * zM σ + 52 then hI h 148 (0 + (52 * zM σ + j - 52 * zM σ)) else hI h 149 (52 * zM σ + j)) = hI h 148 j
      rw [if_pos (by omega)]
      congr 1
      omega
    · rw [if_neg hin]
      refine (r4 i (by omega)).of V.1.1 (fun j hj => ?_)
      show hI (sI h1 145 4 (nI (zM σ + 1))) 149 (52 * i + j) = hI h 149 (52 * i + j)
      rw [hI_sA, if_neg (by decide), e149]
      show (if 52 * zM σ ≤ 52 * i + j ∧ 52 * i + j < 52 * zM σ + 52 then hI h 148 (0 + (52 * i + j - 52 * zM σ)) else hI h 149 (52 * i + j)) = hI h 149 (52 * i + j)
      rw [if_neg (by omega)]
theorem r_rem {h : AH} {σ : SG} (H : Lo h) (V : VI σ) (R : RI h σ) : ∃ h', F_X5_remember h 145 = some h' ∧ RI h' (remS σ) ∧ FrR h h' := by
  have hm8 := V.2.2.1.1
  have e4 := R.2.2.1.1
  unfold F_X5_remember
  rw [o145_ck H, Option.bind_some, o145_gI H, Option.bind_some, e4]
  by_cases hm : zM σ < 8
  · have h8 : ¬ nI (zM σ) = 8 := fun z => by
      have := (nI_eq (a := zM σ) (b := 8) (by omega) (by omega)).mp z
      omega
    rw [if_pos h8, Option.bind_some]
    obtain ⟨h', k1, k2, k3⟩ := r_push H V R hm
    refine ⟨h', k1, ?_, k3⟩
    unfold remS rmM rmP
    rw [if_pos hm]
    simp only [hm, if_true]
    exact k2
  · have hm' : zM σ = 8 := by omega
    have h8 : nI (zM σ) = 8 := by rw [hm']; rfl
    have R0 := R
    obtain ⟨r1, r2, ⟨r3, r4⟩, r5, r6, r7⟩ := R
    have eL := shift_loop (kk := fun h5 _ => Option.bind (gtI h5 145 5 4) fun v7 => Option.bind (ptI h5 145 5 4 (v7 - 1)) fun h8 => some h8) 364 0 FU h H (by omega) (by unfold FU; omega)
    rw [nI_0] at eL
    have F1 : Fs h (sA h 149 (fun q => if 0 ≤ q ∧ q < 364 then hI h 149 (q + 52) else hI h 149 q)) [145, 149] := (Fs.refl h _).sA (by decide)
    have H1 := H.fs F1
    generalize hg : sA h 149 (fun q => if 0 ≤ q ∧ q < 364 then hI h 149 (q + 52) else hI h 149 q) = h1 at eL F1 H1
    have e145 : hI h1 145 = hI h 145 := by rw [← hg, hI_sA, if_neg (by decide)]
    have e149 : hI h1 149 = fun q => if 0 ≤ q ∧ q < 364 then hI h 149 (q + 52) else hI h 149 q := by rw [← hg, hI_sA, if_pos rfl]
    have e41 : hI h1 145 4 = 8 := by rw [e145, r3, hm']; rfl
    have e7 : (8 : Int32) - 1 = 7 := by decide
    have F2 : Fs h (sI h1 145 4 7) [145, 149] := F1.sA (by decide)
    have H2 := H.fs F2
    obtain ⟨q1, q2, q3, q4, q5⟩ := R0.parts F2 (by decide)
    have u : ∀ j, j ≠ 4 → hI (sI h1 145 4 7) 145 j = hI h 145 j := fun j hj => by
      rw [hI_sA, if_pos rfl]
      unfold upd
      rw [if_neg hj, e145]
    have V1 : VI (wM σ 7 (fun i => zP σ (i + 1))) := by
      obtain ⟨v1, v2, ⟨v3, v4⟩, v5, v6, v7⟩ := V
      exact ⟨v1, v2, ⟨by show 7 ≤ 8; omega, fun i hi => v4 (i + 1) (by have hi : i < 7 := hi; omega)⟩, v5, v6, v7⟩
    have R2 : RI (sI h1 145 4 7) (wM σ 7 (fun i => zP σ (i + 1))) := by
      refine ⟨q1, q2, ⟨?_, fun i hi => ?_⟩, q3, ⟨(u 10 (by decide)).trans r6.1, q4⟩, ⟨(u 8 (by decide)).trans r7.1, q5⟩⟩
      · show hI (sI h1 145 4 7) 145 4 = nI 7
        rw [hI_sA, if_pos rfl]
        unfold upd
        rw [if_pos rfl]
        rfl
      · have hi : i < 7 := hi
        show RY (zT σ) (fun j => hI (sI h1 145 4 7) 149 (52 * i + j)) (zP σ (i + 1))
        refine (r4 (i + 1) (by omega)).of V.1.1 (fun j hj => ?_)
        show hI (sI h1 145 4 7) 149 (52 * i + j) = hI h 149 (52 * (i + 1) + j)
        rw [hI_sA, if_neg (by decide), e149]
        show (if 0 ≤ 52 * i + j ∧ 52 * i + j < 364 then hI h 149 (52 * i + j + 52) else hI h 149 (52 * i + j)) = _
        rw [if_pos (by omega)]
        congr 1
        omega
    obtain ⟨h', k1, k2, k3⟩ := r_push H2 V1 R2 (by show 7 < 8; omega)
    rw [if_neg (not_not_intro h8), eL, o145_gI H1, Option.bind_some, e41, e7, o145_pI H1, Option.bind_some, Option.bind_some]
    have F2r := F2.r H (by decide)
    refine ⟨h', k1, ?_, k3.1, fun k => (k3.2.1 k).trans (F2r.2.1 k), fun q hq => (k3.2.2 q hq).trans (F2r.2.2 q hq)⟩
    unfold remS rmM rmP
    rw [if_neg hm]
    simp only [hm, if_false]
    exact k2
/-- the yard that is now changes, all else stays -/
theorem c_setNow {h h' : AH} {σ : SG} {y : YT} (H : Lo h) (C : CI h σ) (V : VI σ) (F : Fr h h' 17 27) (Cy : CY (zT σ) (Yc h' 17) y) : CI h' (wY σ y) ∧ FrC h h' := by
  obtain ⟨c1, c2, ⟨c3, π, p1, p2, p3⟩, c4, c5, c6⟩ := C
  refine ⟨⟨c1.fr F (Or.inl (by omega)), Cy, ⟨?_, π, fun i hi => ?_, p2, fun i hi => ?_⟩, c4.fr F (by omega) (by omega), c5.fr F (by omega), c6.fr F (by omega)⟩, F.c H (by omega)⟩
  · rw [F.2.2.2 0 (by omega)]; exact c3
  · rw [F.2.2.1]; exact p1 i hi
  · exact (p3 i hi).fr F (by omega)
theorem r_setNow {h h' : AH} {σ : SG} {y : YT} {S : List Nat} (H : Lo h) (R : RI h σ) (F : Fs h h' S) (hS : ∀ q ∈ S, q ∈ [148, 154, 155, 156, 157]) (Ry : RY (zT σ) (hI h' 148) y) : RI h' (wY σ y) ∧ FrR h h' := by
  obtain ⟨r1, r2, ⟨r3, r4⟩, r5, r6, r7⟩ := R
  have e : ∀ q, q ∉ [148, 154, 155, 156, 157] → hI h' q = hI h q := fun q hq => F.2.2.2 q (fun z => hq (hS q z))
  have k : ∀ q ∈ [148, 154, 155, 156, 157], 145 ≤ q := by decide
  refine ⟨⟨?_, Ry, ⟨?_, ?_⟩, ?_, ?_, ?_⟩, F.r H (fun q hq => k q (hS q hq))⟩
  · unfold RT at r1 ⊢; rw [e 146 (by decide)]; exact r1
  · rw [e 145 (by decide)]; exact r3
  · unfold PastR at r4 ⊢; rw [e 149 (by decide)]; exact r4
  · unfold KeptR at r5 ⊢; rw [e 150 (by decide), e 151 (by decide)]; exact r5
  · unfold SeenR at r6 ⊢; rw [e 145 (by decide), e 153 (by decide)]; exact r6
  · unfold TextR at r7 ⊢; rw [e 145 (by decide), e 152 (by decide)]; exact r7
theorem VI.now {σ : SG} (V : VI σ) {y : YT} (W : VY (zT σ) y) : VI (wY σ y) := ⟨V.1, W, V.2.2⟩
theorem CY.up {τ : TT} {c y : YT} (C : CY τ c y) (i j : Nat) (v : Int32) (hi : i ≠ 3) (hi4 : i ≠ 4) : CY τ (up2 c i j v) (up2 y i j v) := by
  have g : ∀ a b, c a b = y a b → up2 c i j v a b = up2 y i j v a b := fun a b e => by
    unfold up2
    split
    · rfl
    · exact e
  have g3 : ∀ (w : YT) b, up2 w i j v 3 b = w 3 b := fun w b => up2_ne (fun z => hi z.1.symm)
  have g4 : ∀ (w : YT) b, up2 w i j v 4 b = w 4 b := fun w b => up2_ne (fun z => hi4 z.1.symm)
  obtain ⟨c0, c1, c3, c5, c7⟩ := C
  refine ⟨fun q h1 h2 => g _ _ (c0 q h1 h2), fun q hq => ⟨g _ _ (c1 q hq).1, g _ _ (c1 q hq).2⟩, fun q hq => ?_, fun q hq => ⟨g _ _ (c5 q hq).1, g _ _ (c5 q hq).2⟩, fun q hq => ⟨g _ _ (c7 q hq).1, g _ _ (c7 q hq).2.1, g _ _ (c7 q hq).2.2⟩⟩
  rw [g3, g3, g4, g4]
  exact c3 q hq
/-- an egg is gone -/
theorem CY.gone {τ : TT} {c y : YT} (C : CY τ c y) (p : Nat) : CY τ (up2 c 3 p (-1)) (up2 y 3 p (-1)) := by
  obtain ⟨c0, c1, c3, c5, c7⟩ := C
  refine ⟨fun q h1 h2 => ?_, fun q hq => ?_, fun q hq => ?_, fun q hq => ?_, fun q hq => ?_⟩
  · simpa [up2] using c0 q h1 h2
  · simpa [up2] using c1 q hq
  · by_cases hqp : q = p
    · simp [up2, hqp]
    · simpa [up2, hqp] using c3 q hq
  · simpa [up2] using c5 q hq
  · simpa [up2] using c7 q hq
/-- where a yard's row and column lie in the reference's row of 52 -/
def ixR (i j : Nat) : Nat := if i = 0 then (if j = 9 then 0 else if j = 10 then 1 else j + 38) else if i = 1 then 2 + j else if i = 2 then 10 + j else if i = 3 then 18 + j else if i = 4 then 26 + j else if i = 7 then 34 + j else if i = 8 then 39 + j else 44 + j
def rgR (i j : Nat) : Prop := (i = 0 ∧ 9 ≤ j ∧ j ≤ 13) ∨ ((i = 1 ∨ i = 2 ∨ i = 3 ∨ i = 4) ∧ j < 8) ∨ ((i = 7 ∨ i = 8 ∨ i = 9) ∧ j < 5)
theorem ixR_inj : ∀ i, i < 10 → ∀ j, j < 14 → ∀ a, a < 10 → ∀ b, b < 14 → ((i = 0 ∧ 9 ≤ j ∧ j ≤ 13) ∨ ((i = 1 ∨ i = 2 ∨ i = 3 ∨ i = 4) ∧ j < 8) ∨ ((i = 7 ∨ i = 8 ∨ i = 9) ∧ j < 5)) → ((a = 0 ∧ 9 ≤ b ∧ b ≤ 13) ∨ ((a = 1 ∨ a = 2 ∨ a = 3 ∨ a = 4) ∧ b < 8) ∨ ((a = 7 ∨ a = 8 ∨ a = 9) ∧ b < 5)) → ixR i j = ixR a b → i = a ∧ j = b := by
  intro i hi j hj a ha b hb h1 h2 e
  unfold ixR at e
  repeat' split at e
  all_goals omega
theorem RY.up {τ : TT} {t : Nat → Int32} {y : YT} (R : RY τ t y) (V : VT τ) {i j : Nat} (hr : rgR i j) (v : Int32) : RY τ (upd t (ixR i j) v) (up2 y i j v) := by
  have v1 := V.1
  have g : ∀ a b, rgR a b → t (ixR a b) = y a b → upd t (ixR i j) v (ixR a b) = up2 y i j v a b := by
    intro a b hab e
    unfold upd up2
    by_cases hc : a = i ∧ b = j
    · rw [if_pos hc, if_pos (by rw [hc.1, hc.2])]
    · rw [if_neg hc, if_neg (fun z => hc (ixR_inj a (by unfold rgR at hab; omega) b (by unfold rgR at hab; omega) i (by unfold rgR at hr; omega) j (by unfold rgR at hr; omega) hab hr z))]
      exact e
  obtain ⟨⟨r1, r2, r3, r4, r5⟩, r6, r7, r8⟩ := R
  refine ⟨⟨g 0 9 (by unfold rgR; omega) r1, g 0 10 (by unfold rgR; omega) r2, g 0 11 (by unfold rgR; omega) r3, g 0 12 (by unfold rgR; omega) r4, g 0 13 (by unfold rgR; omega) r5⟩, fun q hq => ⟨g 1 q (by unfold rgR; omega) (r6 q hq).1, g 2 q (by unfold rgR; omega) (r6 q hq).2⟩, fun q hq => ⟨g 3 q (by unfold rgR; omega) (r7 q hq).1, g 4 q (by unfold rgR; omega) (r7 q hq).2⟩, fun q hq => ⟨g 7 q (by unfold rgR; omega) (r8 q hq).1, g 8 q (by unfold rgR; omega) (r8 q hq).2.1, g 9 q (by unfold rgR; omega) (r8 q hq).2.2⟩⟩
