/-! forget, seen, write, erase, count -/
theorem PastC.fr {h h' : AH} {τ : TT} {m : Nat} {P : Nat → YT} {x z : Nat} (C : PastC h τ m P) (F : Fr h h' x z) (hx : 145 ≤ x ∨ z ≤ 45) (hm : m ≤ 8) : PastC h' τ m P := by
  obtain ⟨π, p1, p2, p3⟩ := C
  refine ⟨π, fun i hi => ⟨(p1 i hi).1, by rw [F.2.2.1]; exact (p1 i hi).2⟩, p2, fun i hi => ?_⟩
  have := (p1 i (by omega)).1
  exact (p3 i hi).fr F (by omega)
theorem CI.text {h h' : AH} {σ : SG} {l : Nat} {X : Nat → Int32} (C : CI h σ) (V : VI σ) (F : Fr h h' 1 3) (T : TextC h' l X) : CI h' (wL σ l X) := by
  obtain ⟨c1, c2, ⟨c3, c3'⟩, c4, c5, c6⟩ := C
  exact ⟨c1.fr F (Or.inr (by omega)), c2.fr F (Or.inr (by omega)), ⟨by rw [F.2.2.2 0 (by omega)]; exact c3, c3'.fr F (by omega) V.2.2.1.1⟩, c4.fr F (by omega) (by omega), c5.fr F (by omega), T⟩
theorem CI.seen {h h' : AH} {σ : SG} {n : Nat} {D : Nat → Nat → Int32} (C : CI h σ) (V : VI σ) (F : Fr h h' 40 44) (T : SeenC h' n D) : CI h' (wN σ n D) := by
  obtain ⟨c1, c2, ⟨c3, c3'⟩, c4, c5, c6⟩ := C
  exact ⟨c1.fr F (Or.inl (by omega)), c2.fr F (Or.inl (by omega)), ⟨by rw [F.2.2.2 0 (by omega)]; exact c3, c3'.fr F (by omega) V.2.2.1.1⟩, c4.fr F (by omega) (by omega), T, c6.fr F (by omega)⟩
theorem RI.text {h h' : AH} {σ : SG} {l : Nat} {X : Nat → Int32} (R : RI h σ) (F : Fs h h' [145, 152]) (e4 : hI h' 145 4 = hI h 145 4) (e10 : hI h' 145 10 = hI h 145 10) (T : TextR h' l X) : RI h' (wL σ l X) := by
  obtain ⟨r1, r2, ⟨r3, r4⟩, r5, r6, r7⟩ := R
  have e : ∀ q, q ∉ [145, 152] → hI h' q = hI h q := fun q hq => F.2.2.2 q hq
  refine ⟨?_, ?_, ⟨?_, ?_⟩, ?_, ?_, T⟩
  · unfold RT at r1 ⊢; rw [e 146 (by decide)]; exact r1
  · rw [e 148 (by decide)]; exact r2
  · rw [e4]; exact r3
  · unfold PastR at r4 ⊢; rw [e 149 (by decide)]; exact r4
  · unfold KeptR at r5 ⊢; rw [e 150 (by decide), e 151 (by decide)]; exact r5
  · unfold SeenR at r6 ⊢; rw [e10, e 153 (by decide)]; exact r6
theorem RI.seen {h h' : AH} {σ : SG} {n : Nat} {D : Nat → Nat → Int32} (R : RI h σ) (F : Fs h h' [145, 153]) (e4 : hI h' 145 4 = hI h 145 4) (e8 : hI h' 145 8 = hI h 145 8) (T : SeenR h' n D) : RI h' (wN σ n D) := by
  obtain ⟨r1, r2, ⟨r3, r4⟩, r5, r6, r7⟩ := R
  have e : ∀ q, q ∉ [145, 153] → hI h' q = hI h q := fun q hq => F.2.2.2 q hq
  refine ⟨?_, ?_, ⟨?_, ?_⟩, ?_, T, ?_⟩
  · unfold RT at r1 ⊢; rw [e 146 (by decide)]; exact r1
  · rw [e 148 (by decide)]; exact r2
  · rw [e4]; exact r3
  · unfold PastR at r4 ⊢; rw [e 149 (by decide)]; exact r4
  · unfold KeptR at r5 ⊢; rw [e 150 (by decide), e 151 (by decide)]; exact r5
  · unfold TextR at r7 ⊢; rw [e8, e 152 (by decide)]; exact r7
theorem sI_at (h : AH) (o j : Nat) (v : Int32) : hI (sI h o j v) o j = v := by
  rw [hI_sA, if_pos rfl]
  unfold upd
  rw [if_pos rfl]
theorem sI_ne (h : AH) (o j k : Nat) (v : Int32) (hk : k ≠ j) : hI (sI h o j v) o k = hI h o k := by
  rw [hI_sA, if_pos rfl]
  unfold upd
  rw [if_neg hk]
theorem sI_ob (h : AH) (o j q : Nat) (v : Int32) (hq : q ≠ o) : hI (sI h o j v) q = hI h q := by rw [hI_sA, if_neg hq]
section SEEN
variable {σ : SG}
theorem op_forget (V : VI σ) : Op (fun h => F_X4_forget h 0) (fun h => F_X5_forget h 145) σ := by
  have V' : VI (wN σ 0 (zD σ)) := by
    obtain ⟨v1, v2, v3, v5, v6, v7⟩ := V
    exact ⟨v1, v2, v3, v5, ⟨Nat.zero_le _, fun i hi => absurd hi (Nat.not_lt_zero i)⟩, v7⟩
  refine ⟨nI (zN σ), wN σ 0 (zD σ), V', fun h H C => ?_, fun h H R => ?_⟩
  · have F1 : Fr h (sI h 40 3 0) 40 44 := (Fr.refl h _ _).sA (by omega) (by omega)
    refine ⟨sI h 40 3 0, ?_, C.seen V F1 ⟨sI_at _ _ _ _, fun i hi => absurd hi (Nat.not_lt_zero i)⟩, F1.c H (by omega)⟩
    unfold F_X4_forget
    simp only [o0_ck H, o0_R9 H, o40_gI H, C.2.2.2.2.1.1, o40_pI H, Option.bind_some]
  · have F1 : Fs h (sI h 145 10 0) [145, 153] := (Fs.refl h _).sA (by decide)
    refine ⟨sI h 145 10 0, ?_, R.seen F1 (sI_ne _ _ _ _ _ (by decide)) (sI_ne _ _ _ _ _ (by decide)) ⟨sI_at _ _ _ _, fun i hi => absurd hi (Nat.not_lt_zero i)⟩, F1.r H (by decide)⟩
    unfold F_X5_forget
    simp only [o145_ck H, o145_gI H, R.2.2.2.2.1.1, o145_pI H, Option.bind_some]
def sdP (n : Nat) (D : Nat → Nat → Int32) (a b c : Int32) : Nat → Nat → Int32 := fun i j => if i = n then (if j = 0 then a else if j = 1 then b else c) else D i j
theorem c_add {h : AH} {n : Nat} {D : Nat → Nat → Int32} (H : Lo h) (S : SeenC h n D) (hn : n < 6) (a b c : Int32) : ∃ h', F_X0_add h 40 a b c = some h' ∧ Fr h h' 40 44 ∧ SeenC h' (n + 1) (sdP n D a b c) := by
  have e3 := S.1
  have hlt : nI n < 6 := nI_lt (b := 6) hn (by omega)
  have H1 : Lo (sI h 41 n a) := H.sA _ _
  have H2 : Lo (sI (sI h 41 n a) 42 n b) := H1.sA _ _
  have H3 : Lo (sI (sI (sI h 41 n a) 42 n b) 43 n c) := H2.sA _ _
  have e31 : hI (sI h 41 n a) 40 3 = nI n := by rw [sI_ob _ _ _ _ _ (by decide)]; exact e3
  have e32 : hI (sI (sI h 41 n a) 42 n b) 40 3 = nI n := by rw [sI_ob _ _ _ _ _ (by decide)]; exact e31
  have e33 : hI (sI (sI (sI h 41 n a) 42 n b) 43 n c) 40 3 = nI n := by rw [sI_ob _ _ _ _ _ (by decide)]; exact e32
  refine ⟨sI (sI (sI (sI h 41 n a) 42 n b) 43 n c) 40 3 (nI (n + 1)), ?_, ((((Fr.refl h _ _).sA (by omega) (by omega)).sA (by omega) (by omega)).sA (by omega) (by omega)).sA (by omega) (by omega), sI_at _ _ _ _, fun i hi => ?_⟩
  · unfold F_X0_add
    simp only [o40_ck H, o40_gI H, e3, Option.bind_some, hlt, if_true, o40_R0 H, o41_st H hn, o40_R1 H1, o40_gI H1, e31, o42_st H1 hn, o40_R2 H2, o40_gI H2, e32, o43_st H2 hn, o40_gI H3, e33, nI_1, o40_pI H3]
  · have n1 : (41 : Nat) ≠ 40 := by decide
    rw [sI_ob _ 40 _ 41 _ (by decide), sI_ob _ 40 _ 42 _ (by decide), sI_ob _ 40 _ 43 _ (by decide), sI_ob _ 43 _ 41 _ (by decide), sI_ob _ 43 _ 42 _ (by decide), sI_ob _ 42 _ 41 _ (by decide)]
    unfold sdP
    by_cases hin : i = n
    · subst hin
      rw [sI_at, sI_at, sI_at]
      simp
    · rw [sI_ne _ _ _ _ _ hin, sI_ne _ _ _ _ _ hin, sI_ne _ _ _ _ _ hin, sI_ob _ 42 _ 43 _ (by decide), sI_ob _ 41 _ 43 _ (by decide), sI_ob _ 41 _ 42 _ (by decide), if_neg hin, if_neg hin, if_neg hin]
      exact S.2 i (by omega)
theorem ml_3 (k : Nat) : (3 : Int32) * nI k = nI (3 * k) := pk_mul 3 k
theorem ar_1 (k : Nat) : nI k + 1 = nI (k + 1) := nI_1 k
theorem ar_2 (k : Nat) : nI k + 2 = nI (k + 2) := nI_add k 2
theorem r_add {h : AH} {n : Nat} {D : Nat → Nat → Int32} (H : Lo h) (S : SeenR h n D) (hn : n < 6) (a b c : Int32) : ∃ h', (Option.bind (gtR h 145 5 9) fun r4 => Option.bind (gtI h 145 5 10) fun v5 => Option.bind (stA h r4 10 (3 * v5) a) fun h6 => Option.bind (gtR h6 145 5 9) fun r7 => Option.bind (gtI h6 145 5 10) fun v8 => Option.bind (stA h6 r7 10 ((3 * v8) + 1) b) fun h9 => Option.bind (gtR h9 145 5 9) fun r10 => Option.bind (gtI h9 145 5 10) fun v11 => Option.bind (stA h9 r10 10 ((3 * v11) + 2) c) fun h12 => Option.bind (gtI h12 145 5 10) fun v13 => Option.bind (ptI h12 145 5 10 (v13 + 1)) fun h14 => Option.bind (gtI h14 145 5 10) fun v15 => some (v15, h14)) = some (nI (n + 1), h') ∧ Fs h h' [145, 153] ∧ (hI h' 145 4 = hI h 145 4 ∧ hI h' 145 8 = hI h 145 8) ∧ SeenR h' (n + 1) (sdP n D a b c) := by
  have e3 := S.1
  have H1 : Lo (sI h 153 (3 * n) a) := H.sA _ _
  have H2 : Lo (sI (sI h 153 (3 * n) a) 153 (3 * n + 1) b) := H1.sA _ _
  have H3 : Lo (sI (sI (sI h 153 (3 * n) a) 153 (3 * n + 1) b) 153 (3 * n + 2) c) := H2.sA _ _
  have e31 : hI (sI h 153 (3 * n) a) 145 10 = nI n := by rw [sI_ob _ _ _ _ _ (by decide)]; exact e3
  have e32 : hI (sI (sI h 153 (3 * n) a) 153 (3 * n + 1) b) 145 10 = nI n := by rw [sI_ob _ _ _ _ _ (by decide)]; exact e31
  have e33 : hI (sI (sI (sI h 153 (3 * n) a) 153 (3 * n + 1) b) 153 (3 * n + 2) c) 145 10 = nI n := by rw [sI_ob _ _ _ _ _ (by decide)]; exact e32
  have H4 : Lo (sI (sI (sI (sI h 153 (3 * n) a) 153 (3 * n + 1) b) 153 (3 * n + 2) c) 145 10 (nI (n + 1))) := H3.sA _ _
  have b1 : 3 * n < 18 := by omega
  have b2 : 3 * n + 1 < 18 := by omega
  have b3 : 3 * n + 2 < 18 := by omega
  refine ⟨sI (sI (sI (sI h 153 (3 * n) a) 153 (3 * n + 1) b) 153 (3 * n + 2) c) 145 10 (nI (n + 1)), ?_, ((((Fs.refl h _).sA (by decide)).sA (by decide)).sA (by decide)).sA (by decide), ⟨?_, ?_⟩, sI_at _ _ _ _, fun i hi => ?_⟩
  · rw [o145_R9 H, Option.bind_some, o145_gI H, Option.bind_some, e3, ml_3, o153_st H b1, Option.bind_some, o145_R9 H1, Option.bind_some, o145_gI H1, Option.bind_some, e31, ml_3, ar_1, o153_st H1 b2, Option.bind_some, o145_R9 H2, Option.bind_some, o145_gI H2, Option.bind_some, e32, ml_3, ar_2, o153_st H2 b3, Option.bind_some, o145_gI H3, Option.bind_some, e33, nI_1, o145_pI H3, Option.bind_some, o145_gI H4, Option.bind_some, sI_at]
  · rw [sI_ne _ _ _ _ _ (by decide), sI_ob _ _ _ _ _ (by decide), sI_ob _ _ _ _ _ (by decide), sI_ob _ _ _ _ _ (by decide)]
  · rw [sI_ne _ _ _ _ _ (by decide), sI_ob _ _ _ _ _ (by decide), sI_ob _ _ _ _ _ (by decide), sI_ob _ _ _ _ _ (by decide)]
  · rw [sI_ob _ 145 _ 153 _ (by decide)]
    unfold sdP
    by_cases hin : i = n
    · subst hin
      rw [sI_at, sI_ne _ _ _ (3 * i) _ (by omega), sI_ne _ _ _ (3 * i) _ (by omega), sI_at, sI_ne _ _ _ (3 * i + 1) _ (by omega), sI_at]
      simp
    · rw [sI_ne _ _ _ (3 * i) _ (by omega), sI_ne _ _ _ (3 * i) _ (by omega), sI_ne _ _ _ (3 * i) _ (by omega), sI_ne _ _ _ (3 * i + 1) _ (by omega), sI_ne _ _ _ (3 * i + 1) _ (by omega), sI_ne _ _ _ (3 * i + 1) _ (by omega), sI_ne _ _ _ (3 * i + 2) _ (by omega), sI_ne _ _ _ (3 * i + 2) _ (by omega), sI_ne _ _ _ (3 * i + 2) _ (by omega), if_neg hin, if_neg hin, if_neg hin]
      exact S.2 i (by omega)
theorem op_seen_in (V : VI σ) {k : Nat} (hk : k < tH (zT σ)) (b c : Int32) (FC FR : AH → Option (Int32 × AH))
    (fc : ∀ h, Lo h → CI h σ → FC h = if b < 1 then some ((-3), h) else if b ≤ 14 then (Option.bind (gtR h 0 4 9) fun r2 => Option.bind (gtI h r2 0 3) fun v3 => if v3 < 6 then (Option.bind (gtR h 0 4 9) fun r4 => Option.bind (F_X0_add h r4 (nI k) b c) fun h5 => Option.bind (gtR h5 0 4 9) fun r6 => Option.bind (gtI h5 r6 0 3) fun v7 => some (v7, h5)) else some ((-5), h)) else some ((-3), h))
    (fr : ∀ h, Lo h → RI h σ → FR h = Option.bind (F_X5_in h b.toInt64 1 14) fun v2 => if ¬ v2 = 0 then (Option.bind (gtI h 145 5 10) fun v3 => if ¬ v3 = 6 then (Option.bind (gtR h 145 5 9) fun r4 => Option.bind (gtI h 145 5 10) fun v5 => Option.bind (stA h r4 10 (3 * v5) (nI k)) fun h6 => Option.bind (gtR h6 145 5 9) fun r7 => Option.bind (gtI h6 145 5 10) fun v8 => Option.bind (stA h6 r7 10 ((3 * v8) + 1) b) fun h9 => Option.bind (gtR h9 145 5 9) fun r10 => Option.bind (gtI h9 145 5 10) fun v11 => Option.bind (stA h9 r10 10 ((3 * v11) + 2) c) fun h12 => Option.bind (gtI h12 145 5 10) fun v13 => Option.bind (ptI h12 145 5 10 (v13 + 1)) fun h14 => Option.bind (gtI h14 145 5 10) fun v15 => some (v15, h14)) else some ((-5), h)) else some ((-3), h)) : Op FC FR σ := by
  have v2 := V.1.1.2
  have q10 : ¬ (1 : Int32) = 0 := by decide
  have hn6 := V.2.2.2.2.1.1
  have eb : ((1 : Int32) ≤ b ∧ b ≤ 14) ↔ (¬ b < 1 ∧ b ≤ 14) := by
    simp only [Int32.le_iff_toInt_le, Int32.lt_iff_toInt_lt]
    omega
  by_cases hb : ¬ b < 1 ∧ b ≤ 14
  · by_cases hn : zN σ = 6
    · refine Op.const (-5) V (fun h H C => ?_) (fun h H R => ?_)
      · have e : hI h 40 3 = 6 := by rw [C.2.2.2.2.1.1, hn]; rfl
        have l6 : ¬ (6 : Int32) < 6 := by decide
        rw [fc h H C]
        simp only [hb.1, hb.2, if_false, if_true, o0_R9 H, o40_gI H, Option.bind_some, e, l6]
      · have e : hI h 145 10 = 6 := by rw [R.2.2.2.2.1.1, hn]; rfl
        rw [fr h H R]
        simp only [in_ok h b 1 14 1 14 (by decide) (by decide), Option.bind_some, if_pos (eb.mpr hb), q10, not_false_eq_true, if_true, o145_gI H, e, not_true_eq_false, if_false]
    · have hlt : zN σ < 6 := by omega
      obtain ⟨d, hd, ed⟩ := nI_of2 (x := b) (M := 14) (n := 14) (by decide) (by
        have h1 := hb.1
        rw [Int32.lt_iff_toInt_lt] at h1 ⊢
        have : (1 : Int32).toInt = 1 := by decide
        have : (0 : Int32).toInt = 0 := by decide
        omega) hb.2
      have hd1 : 1 ≤ d := by
        by_cases h0 : d = 0
        · exfalso
          refine hb.1 ?_
          rw [ed, h0]
          decide
        · omega
      have V' : VI (wN σ (zN σ + 1) (sdP (zN σ) (zD σ) (nI k) b c)) := by
        obtain ⟨v1, v2', v3, v5, ⟨v6, v6'⟩, v7⟩ := V
        refine ⟨v1, v2', v3, v5, ⟨by show zN σ + 1 ≤ 6; omega, fun i hi => ?_⟩, v7⟩
        have hi : i < zN σ + 1 := hi
        show (∃ k', k' < 5 ∧ sdP (zN σ) (zD σ) (nI k) b c i 0 = nI k') ∧ ∃ d, 1 ≤ d ∧ d ≤ 14 ∧ sdP (zN σ) (zD σ) (nI k) b c i 1 = nI d
        unfold sdP
        by_cases hin : i = zN σ
        · rw [if_pos hin, if_pos hin, if_pos rfl, if_neg (by decide), if_pos rfl]
          exact ⟨⟨k, by omega, rfl⟩, d, hd1, hd, ed⟩
        · rw [if_neg hin, if_neg hin]
          exact v6' i (by omega)
      refine ⟨nI (zN σ + 1), _, V', fun h H C => ?_, fun h H R => ?_⟩
      · obtain ⟨h1, k1, k2, k3⟩ := c_add H C.2.2.2.2.1 hlt (nI k) b c
        have H1 := H.fr k2
        refine ⟨h1, ?_, C.seen V k2 k3, k2.c H (by omega)⟩
        rw [fc h H C]
        simp only [hb.1, hb.2, if_false, if_true, o0_R9 H, o40_gI H, Option.bind_some, C.2.2.2.2.1.1, if_pos (show nI (zN σ) < 6 from nI_lt (b := 6) hlt (by omega)), k1, o0_R9 H1, o40_gI H1, k3.1]
      · obtain ⟨h1, k1, k2, k3, k4⟩ := r_add H R.2.2.2.2.1 hlt (nI k) b c
        refine ⟨h1, ?_, R.seen k2 k3.1 k3.2 k4, k2.r H (by decide)⟩
        have ne : ¬ nI (zN σ) = 6 := fun z => by
          have := (nI_eq (a := zN σ) (b := 6) (by omega) (by omega)).mp z
          omega
        rw [fr h H R, in_ok h b 1 14 1 14 (by decide) (by decide), Option.bind_some, if_pos (eb.mpr hb), if_pos q10, o145_gI H, Option.bind_some, R.2.2.2.2.1.1, if_pos ne]
        rw [o145_gI H, R.2.2.2.2.1.1] at k1
        exact k1
  · refine Op.const (-3) V (fun h H C => ?_) (fun h H R => ?_)
    · rw [fc h H C]
      by_cases h0 : b < 1
      · rw [if_pos h0]
      · rw [if_neg h0, if_neg (fun z => hb ⟨h0, z⟩)]
    · rw [fr h H R, in_ok h b 1 14 1 14 (by decide) (by decide), Option.bind_some, if_neg (fun z => hb (eb.mp z)), if_neg (not_not_intro rfl)]
theorem op_seen (V : VI σ) (a b c : Int32) : Op (fun h => F_X4_seen h 0 a b c) (fun h => F_X5_seen h 145 a b c) σ := by
  have v1 := V.1.1.1
  have v2 := V.1.1.2
  have q10 : ¬ (1 : Int32) = 0 := by decide
  rcases ixs a (n := tH (zT σ)) (by omega) with hx | ⟨k, hk, rfl⟩
  · refine Op.const (-2) V (fun h H C => ?_) (fun h H R => ?_)
    · unfold F_X4_seen
      simp only [o0_ck H, c_isH_no H C.1 hx, Option.bind_some, if_true]
    · unfold F_X5_seen
      simp only [o145_ck H, r_isH_no H V.1.1 R.1 hx, Option.bind_some, if_true]
  · by_cases hc : c = -1
    · refine op_seen_in V hk b c _ _ (fun h H C => ?_) (fun h H R => ?_)
      · show F_X4_seen h 0 (nI k) b c = _
        unfold F_X4_seen
        rw [o0_ck H, Option.bind_some, c_isH_yes H V.1.1 C.1 hk, Option.bind_some, if_neg q10, if_pos hc]
      · show F_X5_seen h 145 (nI k) b c = _
        unfold F_X5_seen
        rw [o145_ck H, Option.bind_some, r_isH_yes H V.1.1 R.1 hk, Option.bind_some, if_neg q10, if_pos hc]
    · rcases ixs c (n := tP (zT σ)) (by omega) with hx | ⟨p, hp, rfl⟩
      · refine Op.const (-2) V (fun h H C => ?_) (fun h H R => ?_)
        · unfold F_X4_seen
          simp only [o0_ck H, c_isH_yes H V.1.1 C.1 hk, Option.bind_some, q10, hc, if_false, c_isP_no H C.1 hx, not_true_eq_false]
        · unfold F_X5_seen
          simp only [o145_ck H, r_isH_yes H V.1.1 R.1 hk, Option.bind_some, q10, hc, if_false, r_isP_no H V.1.1 R.1 hx, not_true_eq_false]
      · refine op_seen_in V hk b (nI p) _ _ (fun h H C => ?_) (fun h H R => ?_)
        · show F_X4_seen h 0 (nI k) b (nI p) = _
          unfold F_X4_seen
          rw [o0_ck H, Option.bind_some, c_isH_yes H V.1.1 C.1 hk, Option.bind_some, if_neg q10, if_neg hc, c_isP_yes H V.1.1 C.1 hp, Option.bind_some, if_pos q10]
        · show F_X5_seen h 145 (nI k) b (nI p) = _
          unfold F_X5_seen
          rw [o145_ck H, Option.bind_some, r_isH_yes H V.1.1 R.1 hk, Option.bind_some, if_neg q10, if_neg hc, r_isP_yes H V.1.1 R.1 hp, Option.bind_some, if_pos q10]
theorem ch_ok : ∀ c, c < 256 → vp_nar .char (chI (nI c)) = nI c := by decide +kernel
theorem op_write (V : VI σ) (a : Int32) : Op (fun h => F_X4_write h 0 a) (fun h => F_X5_write h 145 a) σ := by
  have q10 : ¬ (1 : Int32) = 0 := by decide
  have hl := V.2.2.2.2.2.1
  have ea : ((0 : Int32) ≤ a ∧ a ≤ 255) ↔ (¬ a < 0 ∧ a ≤ 255) := by
    simp only [Int32.le_iff_toInt_le, Int32.lt_iff_toInt_lt]
    omega
  by_cases ha : ¬ a < 0 ∧ a ≤ 255
  · obtain ⟨c, hc, ec⟩ := nI_of2 (x := a) (M := 255) (n := 255) (by decide) ha.1 ha.2
    by_cases h16 : zL σ = 160
    · refine Op.const (-5) V (fun h H C => ?_) (fun h H R => ?_)
      · have e : hI h 1 1 = 160 := by rw [C.2.2.2.2.2.1, h16]; rfl
        have l6 : ¬ (160 : Int32) < 160 := by decide
        unfold F_X4_write
        simp only [o0_ck H, Option.bind_some, ha.1, ha.2, if_false, if_true, o0_R0 H, o1_gI H, e, l6]
      · have e : hI h 145 8 = 160 := by rw [R.2.2.2.2.2.1, h16]; rfl
        unfold F_X5_write
        simp only [o145_ck H, Option.bind_some, in_ok h a 0 255 0 255 (by decide) (by decide), if_pos (ea.mpr ha), q10, not_false_eq_true, if_true, o145_gI H, e, not_true_eq_false, if_false]
    · have hlt : zL σ < 160 := by omega
      have V' : VI (wL σ (zL σ + 1) (upd (zX σ) (zL σ) a)) := by
        obtain ⟨v1, v2', v3, v5, v6, ⟨v7, v7'⟩⟩ := V
        refine ⟨v1, v2', v3, v5, v6, ⟨by show zL σ + 1 ≤ 160; omega, fun i hi => ?_⟩⟩
        have hi : i < zL σ + 1 := hi
        show ∃ c, c ≤ 255 ∧ upd (zX σ) (zL σ) a i = nI c
        unfold upd
        by_cases hin : i = zL σ
        · rw [if_pos hin]; exact ⟨c, hc, ec⟩
        · rw [if_neg hin]; exact v7' i (by omega)
      refine ⟨nI (zL σ + 1), _, V', fun h H C => ?_, fun h H R => ?_⟩
      · have e1 : hI h 1 1 = nI (zL σ) := C.2.2.2.2.2.1
        have llt : nI (zL σ) < 160 := nI_lt (b := 160) hlt (by omega)
        have H1 : Lo (sI h 2 (zL σ) a) := H.sA _ _
        have e11 : hI (sI h 2 (zL σ) a) 1 1 = nI (zL σ) := by rw [sI_ob _ _ _ _ _ (by decide)]; exact e1
        have H2 : Lo (sI (sI h 2 (zL σ) a) 1 1 (nI (zL σ + 1))) := H1.sA _ _
        have F1 : Fr h (sI (sI h 2 (zL σ) a) 1 1 (nI (zL σ + 1))) 1 3 := ((Fr.refl h _ _).sA (by omega) (by omega)).sA (by omega) (by omega)
        have ech : vp_nar .char (chI a) = a := by rw [ec]; exact ch_ok c (by omega)
        refine ⟨_, ?_, C.text V F1 ⟨sI_at _ _ _ _, fun i hi => ?_⟩, F1.c H (by omega)⟩
        · unfold F_X4_write F_X1_append
          simp only [o0_ck H, Option.bind_some, ha.1, ha.2, if_false, if_true, o0_R0 H, o1_gI H, e1, llt, o1_ck H, o1_R0 H, ech, o2_st H hlt, o1_gI H1, e11, nI_1, o1_pI H1, o0_R0 H2, o1_gI H2, sI_at]
        · rw [sI_ob _ _ _ _ _ (by decide)]
          by_cases hin : i = zL σ
          · rw [hin, sI_at, pk_us]
          · rw [sI_ne _ _ _ _ _ hin, pk_un hin]
            exact C.2.2.2.2.2.2 i (by omega)
      · have e1 : hI h 145 8 = nI (zL σ) := R.2.2.2.2.2.1
        have ne : ¬ nI (zL σ) = 160 := fun z => by
          have := (nI_eq (a := zL σ) (b := 160) (by omega) (by omega)).mp z
          omega
        have H1 : Lo (sI h 152 (zL σ) a) := H.sA _ _
        have e11 : hI (sI h 152 (zL σ) a) 145 8 = nI (zL σ) := by rw [sI_ob _ _ _ _ _ (by decide)]; exact e1
        have H2 : Lo (sI (sI h 152 (zL σ) a) 145 8 (nI (zL σ + 1))) := H1.sA _ _
        have F1 : Fs h (sI (sI h 152 (zL σ) a) 145 8 (nI (zL σ + 1))) [145, 152] := ((Fs.refl h _).sA (by decide)).sA (by decide)
        refine ⟨_, ?_, R.text F1 (by rw [sI_ne _ _ _ _ _ (by decide), sI_ob _ _ _ _ _ (by decide)]) (by rw [sI_ne _ _ _ _ _ (by decide), sI_ob _ _ _ _ _ (by decide)]) ⟨sI_at _ _ _ _, fun i hi => ?_⟩, F1.r H (by decide)⟩
        · unfold F_X5_write
          simp only [o145_ck H, Option.bind_some, in_ok h a 0 255 0 255 (by decide) (by decide), if_pos (ea.mpr ha), q10, not_false_eq_true, if_true, o145_gI H, e1, ne, o145_R7 H, o152_st H hlt, o145_gI H1, e11, nI_1, o145_pI H1, o145_gI H2, sI_at]
        · rw [sI_ob _ _ _ _ _ (by decide)]
          by_cases hin : i = zL σ
          · rw [hin, sI_at, pk_us]
          · rw [sI_ne _ _ _ _ _ hin, pk_un hin]
            exact R.2.2.2.2.2.2 i (by omega)
  · refine Op.const (-3) V (fun h H C => ?_) (fun h H R => ?_)
    · unfold F_X4_write
      by_cases h0 : a < 0
      · simp only [o0_ck H, Option.bind_some, h0, if_true]
      · have h4 : ¬ a ≤ 255 := fun z => ha ⟨h0, z⟩
        simp only [o0_ck H, Option.bind_some, h0, h4, if_false]
    · unfold F_X5_write
      simp only [o145_ck H, Option.bind_some, in_ok h a 0 255 0 255 (by decide) (by decide), if_neg (fun z => ha (ea.mp z)), not_true_eq_false, if_false]
theorem op_erase (V : VI σ) : Op (fun h => F_X4_erase h 0) (fun h => F_X5_erase h 145) σ := by
  have V' : VI (wL σ 0 (zX σ)) := by
    obtain ⟨v1, v2, v3, v5, v6, v7⟩ := V
    exact ⟨v1, v2, v3, v5, v6, ⟨Nat.zero_le _, fun i hi => absurd hi (Nat.not_lt_zero i)⟩⟩
  refine ⟨nI (zL σ), wL σ 0 (zX σ), V', fun h H C => ?_, fun h H R => ?_⟩
  · have F1 : Fr h (sI h 1 1 0) 1 3 := (Fr.refl h _ _).sA (by omega) (by omega)
    refine ⟨sI h 1 1 0, ?_, C.text V F1 ⟨sI_at _ _ _ _, fun i hi => absurd hi (Nat.not_lt_zero i)⟩, F1.c H (by omega)⟩
    unfold F_X4_erase
    simp only [o0_ck H, o0_R0 H, o1_gI H, C.2.2.2.2.2.1, o1_pI H, Option.bind_some]
  · have F1 : Fs h (sI h 145 8 0) [145, 152] := (Fs.refl h _).sA (by decide)
    refine ⟨sI h 145 8 0, ?_, R.text F1 (sI_ne _ _ _ _ _ (by decide)) (sI_ne _ _ _ _ _ (by decide)) ⟨sI_at _ _ _ _, fun i hi => absurd hi (Nat.not_lt_zero i)⟩, F1.r H (by decide)⟩
    unfold F_X5_erase
    simp only [o145_ck H, o145_gI H, R.2.2.2.2.2.1, o145_pI H, Option.bind_some]
end SEEN
