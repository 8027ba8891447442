/-! what can be undone: remembered on both sides -/
def rmM (m : Nat) : Nat := if m < 8 then m + 1 else 8
def rmP (m : Nat) (P : Nat → YT) (y : YT) : Nat → YT := fun i => if m < 8 then (if i = m then y else P i) else (if i = 7 then y else P (i + 1))
def wM (σ : SG) (m : Nat) (P : Nat → YT) : SG := (zT σ, zY σ, (m, P), (zB σ, zK σ), (zN σ, zD σ), (zL σ, zX σ))
def wY (σ : SG) (y : YT) : SG := (zT σ, y, (zM σ, zP σ), (zB σ, zK σ), (zN σ, zD σ), (zL σ, zX σ))
def remS (σ : SG) : SG := wM σ (rmM (zM σ)) (rmP (zM σ) (zP σ) (zY σ))
theorem VI.rem {σ : SG} (V : VI σ) : VI (remS σ) := by
  obtain ⟨v1, v2, ⟨v3, v4⟩, v5, v6, v7⟩ := V
  refine ⟨v1, v2, ⟨?_, fun i hi => ?_⟩, v5, v6, v7⟩
  · show rmM (zM σ) ≤ 8
    unfold rmM
    split <;> omega
  · have hi : i < rmM (zM σ) := hi
    show VY (zT σ) (rmP (zM σ) (zP σ) (zY σ) i)
    unfold rmM at hi
    unfold rmP
    by_cases hm : zM σ < 8
    · rw [if_pos hm] at hi ⊢
      by_cases hi2 : i = zM σ
      · rw [if_pos hi2]; exact v2
      · rw [if_neg hi2]; exact v4 i (by omega)
    · rw [if_neg hm] at hi ⊢
      by_cases hi2 : i = 7
      · rw [if_pos hi2]; exact v2
      · rw [if_neg hi2]; exact v4 (i + 1) (by omega)
theorem KeptC.fr {h h' : AH} {τ : TT} {b : Nat → Bool} {K : Nat → YT} {x z : Nat} (C : KeptC h τ b K) (F : Fr h h' x z) (h1 : 39 < x ∨ z ≤ 39) (h2 : 145 ≤ x ∨ z ≤ 125) : KeptC h' τ b K := by
  intro k hk
  refine ⟨?_, fun hb => ?_⟩
  · rw [F.2.2.2 39 (by omega)]; exact (C k hk).1
  · exact ((C k hk).2 hb).fr F (by omega)
theorem SeenC.fr {h h' : AH} {n : Nat} {D : Nat → Nat → Int32} {x z : Nat} (C : SeenC h n D) (F : Fr h h' x z) (h1 : 43 < x ∨ z ≤ 40) : SeenC h' n D := by
  unfold SeenC at C ⊢
  rw [F.2.2.2 40 (by omega), F.2.2.2 41 (by omega), F.2.2.2 42 (by omega), F.2.2.2 43 (by omega)]
  exact C
theorem TextC.fr {h h' : AH} {n : Nat} {X : Nat → Int32} {x z : Nat} (C : TextC h n X) (F : Fr h h' x z) (h1 : 2 < x ∨ z ≤ 1) : TextC h' n X := by
  unfold TextC at C ⊢
  rw [F.2.2.2 1 (by omega), F.2.2.2 2 (by omega)]
  exact C
def sQ (h : AH) (g : Nat → Option Nat) : AH := (hN h, hS h, va_up (hR h) 37 g, hI h, hL h)
theorem sR_37 (h : AH) (j : Nat) (v : Option Nat) : sR h 37 j v = sQ h (va_up (hR h 37) j v) := rfl
theorem hR_sQ (h : AH) (g : Nat → Option Nat) : hR (sQ h g) 37 = g := (ups : va_up (hR h) 37 g 37 = g)
theorem hI_sQ (h : AH) (g : Nat → Option Nat) : hI (sQ h g) = hI h := rfl
theorem sQ_sQ (h : AH) (f g : Nat → Option Nat) : sQ (sQ h f) g = sQ h g := by
  obtain ⟨n, s, r, i, l⟩ := h
  show (n, s, va_up (va_up r 37 f) 37 g, i, l) = (n, s, va_up r 37 g, i, l)
  have e : va_up (va_up r 37 f) 37 g = va_up r 37 g := by
    funext q
    unfold va_up
    split
    next => rfl
    next => rfl
  rw [e]
theorem Lo.sQ {h : AH} (H : Lo h) (g : Nat → Option Nat) : Lo (sQ h g) := ⟨H.1, H.2.1, fun q k hq hn => (congrFun (upn hn : va_up (hR h) 37 g q = hR h q) k).trans (H.2.2 q k hq hn)⟩
theorem o37_ld {h : AH} {i r : Nat} (H : Lo h) (hi : i < 8) (hr : hR h 37 i = some r) : ldR h 37 (nI i) = some r := by
  have z := op_is H (q := 37) (t := 13) (n := 8) (by decide) (by decide)
  unfold ldR
  rw [if_pos ⟨⟨z.1, by rw [z.2]⟩, by rw [z.2]; exact inB_nI hi (by decide)⟩, nI_clamp (by omega)]
  exact hr
theorem o37_st {h : AH} {i v : Nat} (H : Lo h) (hi : i < 8) (hv : YO v) : stR h 37 (nI i) v = some (sQ h (va_up (hR h 37) i (some v))) := by
  have z := op_is H (q := 37) (t := 13) (n := 8) (by decide) (by decide)
  have zv := op_is H (q := v) (by have := yo_lt hv; omega) (yo_all v hv).1
  unfold stR
  rw [if_pos ⟨⟨⟨z.1, by rw [z.2]⟩, by rw [z.2]; exact inB_nI hi (by decide)⟩, zv⟩, nI_clamp (by omega)]
  rfl
theorem o38_ld {h : AH} {k : Nat} (H : Lo h) (hk : k < 2) : ldR h 38 (nI k) = some (125 + 10 * k) := by
  have z := op_is H (q := 38) (t := 13) (n := 2) (by decide) (by decide)
  unfold ldR
  rw [if_pos ⟨⟨z.1, by rw [z.2]⟩, by rw [z.2]; exact inB_nI hk (by decide)⟩, nI_clamp (by omega), H.2.2 38 k (by decide) (by decide)]
  have : ∀ k, k < 2 → lyR 38 k = some (125 + 10 * k) := by decide
  exact this k hk
theorem drop_loop {β : Type} {r : Nat} {kk : AH → Int32 → Option β} : ∀ (m i f : Nat) (h : AH), Lo h → (∀ j, j < 8 → ∃ a, a < 8 ∧ hR h 37 j = some (45 + 10 * a)) → 1 ≤ i → i + m = 8 → m < f → L_X4_dropOldest_9 0 r kk f h (nI i) = kk (sQ h (fun j => if i - 1 ≤ j ∧ j < 7 then hR h 37 (j + 1) else hR h 37 j)) (nI 8) := by
  intro m
  induction m with
  | zero =>
    intro i f h H hr h1 e hf
    obtain ⟨f, rfl⟩ : ∃ g, f = g + 1 := ⟨f - 1, by omega⟩
    have hi : i = 8 := by omega
    subst hi
    conv => lhs; unfold L_X4_dropOldest_9
    rw [if_pos (by decide)]
    have e : (fun j => if 8 - 1 ≤ j ∧ j < 7 then hR h 37 (j + 1) else hR h 37 j) = hR h 37 := funext fun j => if_neg (by omega)
    rw [e]
    have e2 : sQ h (hR h 37) = h := by
      obtain ⟨n, s, r, i, l⟩ := h
      show (n, s, va_up r 37 (r 37), i, l) = (n, s, r, i, l)
      have e : va_up r 37 (r 37) = r := by
        funext q
        unfold va_up
        split
        next e => rw [e]
        next => rfl
      rw [e]
    rw [e2]
  | succ m ih =>
    intro i f h H hr h1 e hf
    obtain ⟨f, rfl⟩ : ∃ g, f = g + 1 := ⟨f - 1, by omega⟩
    have hi : i < 8 := by omega
    obtain ⟨a, ha, ea⟩ := hr i hi
    have h8 : ¬ (8 : Int32) ≤ nI i := nI_ge (b := 8) hi (by omega)
    have ei : nI i - 1 = nI (i - 1) := pk_sub (a := i) (b := 1) h1
    have hr1 : ∀ j, j < 8 → ∃ a, a < 8 ∧ hR (sQ h (va_up (hR h 37) (i - 1) (some (45 + 10 * a)))) 37 j = some (45 + 10 * a) := by
      intro j hj
      obtain ⟨b, hb, eb⟩ := hr j hj
      by_cases hji : j = i - 1
      · exact ⟨a, ha, by rw [hR_sQ]; unfold va_up; rw [if_pos hji]⟩
      · exact ⟨b, hb, by rw [hR_sQ]; unfold va_up; rw [if_neg hji]; exact eb⟩
    conv => lhs; unfold L_X4_dropOldest_9
    rw [if_neg h8, o0_R5 H, Option.bind_some, Option.bind_some, o37_ld H hi ea, Option.bind_some, ei, o37_st H (by omega) (yo_past ha), Option.bind_some, nI_1, ih (i + 1) f _ (H.sQ _) (by
      intro j hj
      obtain ⟨b, hb, eb⟩ := hr j hj
      by_cases hji : j = i - 1
      · exact ⟨a, ha, by rw [hR_sQ]; unfold va_up; rw [if_pos hji]⟩
      · exact ⟨b, hb, by rw [hR_sQ]; unfold va_up; rw [if_neg hji]; exact eb⟩) (by omega) (by omega) (by omega), sQ_sQ]
    congr 2
    funext j
    rw [hR_sQ]
    unfold va_up
    by_cases hji : j = i - 1
    · subst hji
      rw [if_neg (by omega), if_pos rfl, if_pos (by omega)]
      have : i - 1 + 1 = i := by omega
      rw [this, ea]
    · by_cases h2 : i - 1 ≤ j ∧ j < 7
      · rw [if_pos (by omega), if_neg (by omega), if_pos h2]
      · rw [if_neg (by omega), if_neg hji, if_neg h2]
theorem c_drop {h : AH} {σ : SG} (H : Lo h) (V : VI σ) (C : CI h σ) (hm : zM σ = 8) : ∃ h', F_X4_dropOldest h 0 = some h' ∧ Lo h' ∧ CI h' (wM σ 7 (fun i => zP σ (i + 1))) ∧ FrC h h' := by
  obtain ⟨c1, c2, ⟨c3, π, p1, p2, p3⟩, c4, c5, c6⟩ := C
  have hr : ∀ j, j < 8 → ∃ a, a < 8 ∧ hR h 37 j = some (45 + 10 * a) := fun j hj => ⟨π j, p1 j hj⟩
  have e0 : ldR h 37 0 = some (45 + 10 * π 0) := o37_ld (i := 0) H (by omega) (p1 0 (by omega)).2
  have eL := drop_loop (r := 45 + 10 * π 0) (kk := fun h5 _ => Option.bind (gtR h5 0 4 5) fun r7 => Option.bind (stR h5 r7 7 (45 + 10 * π 0)) fun h8 => Option.bind (ptI h8 0 4 6 7) fun h9 => some h9) 7 1 FU h H hr (by omega) (by omega) (by unfold FU; omega)
  have e1 : nI 1 = 1 := rfl
  rw [e1] at eL
  have H1 := H.sQ (fun j => if 1 - 1 ≤ j ∧ j < 7 then hR h 37 (j + 1) else hR h 37 j)
  have e7 : stR (sQ h (fun j => if 1 - 1 ≤ j ∧ j < 7 then hR h 37 (j + 1) else hR h 37 j)) 37 7 (45 + 10 * π 0) = some _ := o37_st (i := 7) H1 (by omega) (yo_past (p1 0 (by omega)).1)
  unfold F_X4_dropOldest
  rw [o0_ck H, Option.bind_some, o0_R5 H, Option.bind_some, e0, Option.bind_some, eL, o0_R5 H1, Option.bind_some, e7, Option.bind_some, o0_pI (H1.sQ _), Option.bind_some, sQ_sQ, hR_sQ]
  generalize hg : va_up (fun j => if 1 - 1 ≤ j ∧ j < 7 then hR h 37 (j + 1) else hR h 37 j) 7 (some (45 + 10 * π 0)) = g
  have H2 : Lo (sI (sQ h g) 0 6 7) := (H.sQ g).sA _ _
  have eI : ∀ q, q ≠ 0 → hI (sI (sQ h g) 0 6 7) q = hI h q := fun q hq => by rw [hI_sA, if_neg hq, hI_sQ]
  have F1 : Fr h (sI h 0 6 7) 0 1 := (Fr.refl h _ _).sA (by omega) (by omega)
  refine ⟨_, rfl, H2, ⟨?_, ?_, ⟨?_, fun i => if i = 7 then π 0 else π (i + 1), fun i hi => ?_, fun i j hi hj e => ?_, fun i hi => ?_⟩, ?_, ?_, ?_⟩, H2, fun q hq => eI q (by omega)⟩
  · show CT (sI h 0 6 7) 3 (zT σ)
    exact c1.fr F1 (Or.inr (by omega))
  · show CY (zT σ) (Yc (sI h 0 6 7) 17) (zY σ)
    exact c2.fr F1 (Or.inr (by omega))
  · show hI (sI (sQ h g) 0 6 7) 0 6 = nI 7
    rw [hI_sA, if_pos rfl]
    unfold upd
    rw [if_pos rfl]
    rfl
  · have : hR (sI (sQ h g) 0 6 7) 37 i = g i := congrFun (hR_sQ h g) i
    rw [this, ← hg]
    by_cases h7 : i = 7
    · subst h7
      exact ⟨(p1 0 (by omega)).1, rfl⟩
    · have hz : (0 ≤ i ∧ i < 7) := by omega
      simp only [va_up, h7, if_false, Nat.sub_self, hz, and_self, if_true]
      exact p1 (i + 1) (by omega)
  · by_cases h7 : i = 7
    · by_cases j7 : j = 7
      · omega
      · simp only [h7, j7, if_true, if_false] at e
        have := p2 0 (j + 1) (by omega) (by omega) e
        omega
    · by_cases j7 : j = 7
      · simp only [h7, j7, if_true, if_false] at e
        have := p2 (i + 1) 0 (by omega) (by omega) e
        omega
      · simp only [h7, j7, if_false] at e
        have := p2 (i + 1) (j + 1) (by omega) (by omega) e
        omega
  · have hi : i < 7 := hi
    show CY (zT σ) (Yc (sI (sQ h g) 0 6 7) (45 + 10 * (if i = 7 then π 0 else π (i + 1)))) (zP σ (i + 1))
    rw [if_neg (by omega)]
    have := p3 (i + 1) (by omega)
    show CY (zT σ) (Yc (sI h 0 6 7) (45 + 10 * π (i + 1))) (zP σ (i + 1))
    exact this.fr F1 (Or.inr (by omega))
  · show KeptC (sI h 0 6 7) (zT σ) (zB σ) (zK σ)
    exact c4.fr F1 (by omega) (by omega)
  · show SeenC (sI h 0 6 7) (zN σ) (zD σ)
    exact c5.fr F1 (by omega)
  · show TextC (sI h 0 6 7) (zL σ) (zX σ)
    exact c6.fr F1 (by omega)
/-- the class's rest of remember(): the yard as it is now goes where there is room -/
theorem c_push {h : AH} {σ : SG} (H : Lo h) (V : VI σ) (C : CI h σ) (hm : zM σ < 8) : ∃ h', (Option.bind (gtR h 0 4 5) fun r4 => Option.bind (gtI h 0 4 6) fun v5 => Option.bind (ldR h r4 v5) fun r6 => Option.bind (gtR h 0 4 3) fun r7 => Option.bind (F_X3_copyFrom h r6 r7) fun h8 => Option.bind (gtI h8 0 4 6) fun v9 => Option.bind (ptI h8 0 4 6 (v9 + 1)) fun h10 => some h10) = some h' ∧ CI h' (wM σ (zM σ + 1) (fun i => if i = zM σ then zY σ else zP σ i)) ∧ FrC h h' := by
  obtain ⟨c1, c2, ⟨c3, π, p1, p2, p3⟩, c4, c5, c6⟩ := C
  obtain ⟨ha, ea⟩ := p1 (zM σ) hm
  have hyo := yo_past ha
  obtain ⟨h1, k1, k2, k3⟩ := c_copy H hyo yo_17 (by omega) V.1.1 c2 V.2.1.2.1
  have H1 := H.fr k2
  have e6 : hI h1 0 6 = nI (zM σ) := by rw [k2.2.2.2 0 (by omega)]; exact c3
  rw [o0_R5 H, Option.bind_some, o0_gI H, Option.bind_some, c3, o37_ld H hm ea, Option.bind_some, o0_R3 H, Option.bind_some, k1, Option.bind_some, o0_gI H1, Option.bind_some, e6, nI_1, o0_pI H1, Option.bind_some]
  have F2 : Fr h1 (sI h1 0 6 (nI (zM σ + 1))) 0 1 := (Fr.refl h1 _ _).sA (by omega) (by omega)
  refine ⟨_, rfl, ⟨?_, ?_, ⟨?_, π, fun i hi => ?_, p2, fun i hi => ?_⟩, ?_, ?_, ?_⟩, H1.sA _ _, fun q hq => ?_⟩
  · exact (c1.fr k2 (Or.inl (by omega))).fr F2 (Or.inr (by omega))
  · exact (c2.fr k2 (Or.inl (by omega))).fr F2 (Or.inr (by omega))
  · show hI (sI h1 0 6 (nI (zM σ + 1))) 0 6 = nI (zM σ + 1)
    rw [hI_sA, if_pos rfl]
    unfold upd
    rw [if_pos rfl]
  · have : hR (sI h1 0 6 (nI (zM σ + 1))) 37 i = hR h 37 i := congrFun (congrFun k2.2.2.1 37) i
    rw [this]
    exact p1 i hi
  · have hi : i < zM σ + 1 := hi
    show CY (zT σ) (Yc (sI h1 0 6 (nI (zM σ + 1))) (45 + 10 * π i)) (if i = zM σ then zY σ else zP σ i)
    by_cases hin : i = zM σ
    · rw [if_pos hin, hin]
      exact k3.fr F2 (Or.inr (by omega))
    · rw [if_neg hin]
      have hne : π i ≠ π (zM σ) := fun z => hin (p2 i (zM σ) (by omega) hm z)
      exact ((p3 i (by omega)).fr k2 (by omega)).fr F2 (Or.inr (by omega))
  · exact (c4.fr k2 (by omega) (by omega)).fr F2 (by omega) (by omega)
  · exact (c5.fr k2 (by omega)).fr F2 (by omega)
  · exact (c6.fr k2 (by omega)).fr F2 (by omega)
  · rw [hI_sA, if_neg (by omega), k2.2.2.2 q (by omega)]
theorem c_rem {h : AH} {σ : SG} (H : Lo h) (V : VI σ) (C : CI h σ) : ∃ h', F_X4_remember h 0 = some h' ∧ CI h' (remS σ) ∧ FrC h h' := by
  have hm8 := V.2.2.1.1
  have e6 := C.2.2.1.1
  unfold F_X4_remember
  rw [o0_ck H, Option.bind_some, o0_gI H, Option.bind_some, e6]
  by_cases hm : zM σ < 8
  · have h8 : nI (zM σ) < 8 := nI_lt (b := 8) hm (by omega)
    rw [if_pos h8, Option.bind_some]
    obtain ⟨h', k1, k2, k3⟩ := c_push H V C hm
    refine ⟨h', k1, ?_, k3⟩
    unfold remS rmM rmP
    rw [if_pos hm]
    simp only [hm, if_true]
    exact k2
  · have hm' : zM σ = 8 := by omega
    have h8 : ¬ nI (zM σ) < 8 := nI_nlt (b := 8) (by omega) (by omega)
    obtain ⟨h1, d1, d2, d3, d4⟩ := c_drop H V C hm'
    have V1 : VI (wM σ 7 (fun i => zP σ (i + 1))) := by
      obtain ⟨v1, v2, ⟨v3, v4⟩, v5, v6, v7⟩ := V
      exact ⟨v1, v2, ⟨by show 7 ≤ 8; omega, fun i hi => v4 (i + 1) (by have hi : i < 7 := hi; omega)⟩, v5, v6, v7⟩
    obtain ⟨h', k1, k2, k3⟩ := c_push d2 V1 d3 (by show 7 < 8; omega)
    rw [if_neg h8, d1, Option.bind_some, Option.bind_some]
    refine ⟨h', k1, ?_, k3.1, fun q hq => (k3.2 q hq).trans (d4.2 q hq)⟩
    unfold remS rmM rmP
    rw [if_neg hm]
    simp only [hm, if_false]
    exact k2
