/-! fault and yard -/
section BEGINS
theorem bg2_loop {β : Type} {kk : AH → Int32 → Option β} : ∀ (m i f : Nat) (h : AH), Lo h → i + m = 52 → m < f → L_X5_begins_2 145 kk f h (nI i) = kk (sA h 148 (fun q => if i ≤ q ∧ q < 52 then 0 else hI h 148 q)) (nI 52) := by
  intro m
  induction m with
  | zero =>
    intro i f h H e hf
    obtain ⟨f, rfl⟩ : ∃ g, f = g + 1 := ⟨f - 1, by omega⟩
    have hi : i = 52 := by omega
    subst hi
    conv => lhs; unfold L_X5_begins_2
    rw [if_pos (by decide), sA_eq (funext fun q => if_neg (by omega))]
  | succ m ih =>
    intro i f h H e hf
    obtain ⟨f, rfl⟩ : ∃ g, f = g + 1 := ⟨f - 1, by omega⟩
    have h52 : ¬ (52 : Int32) ≤ nI i := nI_ge (b := 52) (by omega) (by omega)
    conv => lhs; unfold L_X5_begins_2
    rw [if_neg h52, o145_R2 H, Option.bind_some, o148_st H (by omega), Option.bind_some, nI_1, ih (i + 1) f _ (H.sA _ _) (by omega) (by omega), sA_sA]
    congr 2
    funext q
    simp only [hI_sA, if_true, upd]
    by_cases hq : q = i
    · rw [if_neg (by omega), if_pos hq, if_pos (by omega)]
    · by_cases h2 : i ≤ q ∧ q < 52
      · rw [if_pos (by omega), if_pos h2]
      · rw [if_neg (by omega), if_neg hq, if_neg h2]
theorem bg81_loop {β : Type} {kk : AH → Int32 → Option β} : ∀ (m i f : Nat) (h : AH), Lo h → i + m = 5 → m < f → L_X5_begins_81 145 kk f h (nI i) = kk (sA h 148 (fun q => if 34 + i ≤ q ∧ q < 39 then -1 else hI h 148 q)) (nI 5) := by
  intro m
  induction m with
  | zero =>
    intro i f h H e hf
    obtain ⟨f, rfl⟩ : ∃ g, f = g + 1 := ⟨f - 1, by omega⟩
    have hi : i = 5 := by omega
    subst hi
    conv => lhs; unfold L_X5_begins_81
    rw [if_pos (by decide), sA_eq (funext fun q => if_neg (by omega))]
  | succ m ih =>
    intro i f h H e hf
    obtain ⟨f, rfl⟩ : ∃ g, f = g + 1 := ⟨f - 1, by omega⟩
    have h5 : ¬ (5 : Int32) ≤ nI i := nI_ge (b := 5) (by omega) (by omega)
    conv => lhs; unfold L_X5_begins_81
    rw [if_neg h5, o145_R2 H, Option.bind_some, al_34, o148_st H (by omega), Option.bind_some, nI_1, ih (i + 1) f _ (H.sA _ _) (by omega) (by omega), sA_sA]
    congr 2
    funext q
    simp only [hI_sA, if_true, upd]
    by_cases hq : q = 34 + i
    · rw [if_neg (by omega), if_pos hq, if_pos (by omega)]
    · by_cases h2 : 34 + i ≤ q ∧ q < 39
      · rw [if_pos (by omega), if_pos h2]
      · rw [if_neg (by omega), if_neg hq, if_neg h2]
def bgG (t u : Nat → Int32) (i : Nat) : Nat → Int32 := fun q => if 2 + i ≤ q ∧ q < 10 then u (q - 1) else if 10 + i ≤ q ∧ q < 18 then u (q - 1) else if 18 + i ≤ q ∧ q < 26 then -1 else t q
theorem bg23_loop {β : Type} {kk : AH → Int32 → Option β} : ∀ (m i f : Nat) (h : AH), Lo h → i + m = 8 → m < f → L_X5_begins_23 145 kk f h (nI i) = kk (sA h 148 (bgG (hI h 148) (hI h 146) i)) (nI 8) := by
  intro m
  induction m with
  | zero =>
    intro i f h H e hf
    obtain ⟨f, rfl⟩ : ∃ g, f = g + 1 := ⟨f - 1, by omega⟩
    have hi : i = 8 := by omega
    subst hi
    conv => lhs; unfold L_X5_begins_23
    rw [if_pos (by decide), sA_eq (funext fun q => by unfold bgG; rw [if_neg (by omega), if_neg (by omega), if_neg (by omega)])]
  | succ m ih =>
    intro i f h H e hf
    obtain ⟨f, rfl⟩ : ∃ g, f = g + 1 := ⟨f - 1, by omega⟩
    have h8 : ¬ (8 : Int32) ≤ nI i := nI_ge (b := 8) (by omega) (by omega)
    have H1 : Lo (sI h 148 (2 + i) (hI h 146 (1 + i))) := H.sA _ _
    have H2 : Lo (sI (sI h 148 (2 + i) (hI h 146 (1 + i))) 148 (10 + i) (hI h 146 (9 + i))) := H1.sA _ _
    conv => lhs; unfold L_X5_begins_23
    rw [if_neg h8, o145_R2 H, Option.bind_some, o145_R0 H, Option.bind_some, al_1, al_2, al_9, al_10, al_18, o146_ld H (by omega), Option.bind_some, o148_st H (by omega), Option.bind_some, o145_R2 H1, Option.bind_some, o145_R0 H1, Option.bind_some, o146_ld H1 (by omega), Option.bind_some, sI_ob _ _ _ _ _ (by decide), o148_st H1 (by omega), Option.bind_some, o145_R2 H2, Option.bind_some, o148_st H2 (by omega), Option.bind_some, nI_1, ih (i + 1) f _ (H2.sA _ _) (by omega) (by omega), sA_sA, sA_sA, sA_sA]
    congr 2
    funext q
    simp only [hI_sA, if_true, upd, bgG, if_neg (show ¬ 146 = 148 by decide)]
    by_cases q1 : q = 2 + i
    · subst q1
      rw [if_neg (by omega), if_neg (by omega), if_neg (by omega), if_neg (by omega), if_neg (by omega), if_pos rfl, if_pos (by omega), show 2 + i - 1 = 1 + i by omega]
    · by_cases q2 : q = 10 + i
      · subst q2
        rw [if_neg (by omega), if_neg (by omega), if_neg (by omega), if_neg (by omega), if_pos rfl, if_neg (by omega), if_pos (by omega), show 10 + i - 1 = 9 + i by omega]
      · by_cases q3 : q = 18 + i
        · subst q3
          rw [if_neg (by omega), if_neg (by omega), if_neg (by omega), if_pos rfl, if_neg (by omega), if_neg (by omega), if_pos (by omega)]
        · rw [if_neg q1, if_neg q2, if_neg q3]
          by_cases a1 : 2 + i ≤ q ∧ q < 10
          · rw [if_pos a1, if_pos (by omega)]
          · rw [if_neg a1, if_neg (show ¬ (2 + (i + 1) ≤ q ∧ q < 10) by omega)]
            by_cases a2 : 10 + i ≤ q ∧ q < 18
            · rw [if_pos a2, if_pos (by omega)]
            · rw [if_neg a2, if_neg (show ¬ (10 + (i + 1) ≤ q ∧ q < 18) by omega)]
              by_cases a3 : 18 + i ≤ q ∧ q < 26
              · rw [if_pos a3, if_pos (by omega)]
              · rw [if_neg a3, if_neg (show ¬ (18 + (i + 1) ≤ q ∧ q < 26) by omega)]
theorem o151_s0 {h : AH} {v : Int32} (H : Lo h) : stA h 151 12 0 v = some (sI h 151 0 v) := o151_st (k := 0) H (by decide)
theorem o151_s1 {h : AH} {v : Int32} (H : Lo h) : stA h 151 12 1 v = some (sI h 151 1 v) := o151_st (k := 1) H (by decide)
/-- the row of a new yard -/
def bgR (u t : Nat → Int32) : Nat → Int32 := fun q => if 34 ≤ q ∧ q < 39 then -1 else bgG (fun q => if q < 52 then 0 else t q) u 0 q
theorem bgR_ry {τ : TT} {u t : Nat → Int32} (V : VT τ) (R : RT0 u τ) : RY τ (bgR u t) (bgP τ) := by
  obtain ⟨t1, t2, t3, t4, t5⟩ := R
  have v1 := V.1
  have v2 := V.2
  have z : ∀ q, q < 52 → ¬ (34 ≤ q ∧ q < 39) → ¬ (2 ≤ q ∧ q < 26) → bgR u t q = 0 := fun q h1 h2 h3 => by
    unfold bgR bgG
    rw [if_neg h2, if_neg (by omega), if_neg (by omega), if_neg (by omega)]
    exact if_pos h1
  refine ⟨⟨z 0 (by omega) (by omega) (by omega), z 1 (by omega) (by omega) (by omega), z 49 (by omega) (by omega) (by omega), z 50 (by omega) (by omega) (by omega), z 51 (by omega) (by omega) (by omega)⟩, fun p hp => ⟨?_, ?_⟩, fun p hp => ⟨?_, ?_⟩, fun k hk => ⟨?_, ?_, ?_⟩⟩
  · unfold bgR bgG
    rw [if_neg (by omega), if_pos (by omega), show 2 + p - 1 = 1 + p by omega, (t3 p hp).1]
    rfl
  · unfold bgR bgG
    rw [if_neg (by omega), if_neg (by omega), if_pos (by omega), show 10 + p - 1 = 9 + p by omega, (t3 p hp).2.1]
    rfl
  · unfold bgR bgG
    rw [if_neg (by omega), if_neg (by omega), if_neg (by omega), if_pos (by omega)]
    rfl
  · exact z _ (by omega) (by omega) (by omega)
  · unfold bgR
    rw [if_pos (by omega)]
    rfl
  · exact z _ (by omega) (by omega) (by omega)
  · exact z _ (by omega) (by omega) (by omega)
theorem r_begins {h : AH} {τ : TT} (H : Lo h) (V : VT τ) (R : RT h τ) : ∃ h', F_X5_begins h 145 = some h' ∧ Fs h h' [145, 148, 151] ∧ RY τ (hI h' 148) (bgP τ) ∧ hI h' 145 4 = 0 ∧ hI h' 145 10 = 0 ∧ hI h' 151 0 = 0 ∧ hI h' 151 1 = 0 ∧ ∀ j, j ≠ 4 → j ≠ 10 → hI h' 145 j = hI h 145 j := by
  have H1 : Lo (sA h 148 (bgR (hI h 146) (hI h 148))) := H.sA _ _
  have H2 : Lo (sI (sA h 148 (bgR (hI h 146) (hI h 148))) 145 4 0) := H1.sA _ _
  have H3 : Lo (sI (sI (sA h 148 (bgR (hI h 146) (hI h 148))) 145 4 0) 151 0 0) := H2.sA _ _
  have H4 : Lo (sI (sI (sI (sA h 148 (bgR (hI h 146) (hI h 148))) 145 4 0) 151 0 0) 151 1 0) := H3.sA _ _
  refine ⟨sI (sI (sI (sI (sA h 148 (bgR (hI h 146) (hI h 148))) 145 4 0) 151 0 0) 151 1 0) 145 10 0, ?_, ?_, ?_, ?_, ?_, ?_, ?_, fun j h4 h10 => ?_⟩
  · unfold F_X5_begins
    have e2 : ∀ kk : AH → Int32 → Option AH, L_X5_begins_2 145 kk FU h 0 = kk (sA h 148 (fun q => if 0 ≤ q ∧ q < 52 then 0 else hI h 148 q)) (nI 52) := fun kk => by
      have := bg2_loop (kk := kk) 52 0 FU h H (by omega) (by unfold FU; omega)
      rw [nI_0] at this
      exact this
    have e23 : ∀ (kk : AH → Int32 → Option AH) (h1 : AH), Lo h1 → L_X5_begins_23 145 kk FU h1 0 = kk (sA h1 148 (bgG (hI h1 148) (hI h1 146) 0)) (nI 8) := fun kk h1 H1 => by
      have := bg23_loop (kk := kk) 8 0 FU h1 H1 (by omega) (by unfold FU; omega)
      rw [nI_0] at this
      exact this
    have e81 : ∀ (kk : AH → Int32 → Option AH) (h1 : AH), Lo h1 → L_X5_begins_81 145 kk FU h1 0 = kk (sA h1 148 (fun q => if 34 ≤ q ∧ q < 39 then -1 else hI h1 148 q)) (nI 5) := fun kk h1 H1 => by
      have := bg81_loop (kk := kk) 5 0 FU h1 H1 (by omega) (by unfold FU; omega)
      rw [nI_0] at this
      exact this
    rw [o145_ck H, Option.bind_some, e2, e23 _ _ (H.sA _ _), sA_sA, e81 _ _ (H.sA _ _), sA_sA]
    have er : (fun q => if 34 ≤ q ∧ q < 39 then (-1 : Int32) else hI (sA h 148 (bgG (hI (sA h 148 (fun q => if 0 ≤ q ∧ q < 52 then 0 else hI h 148 q)) 148) (hI (sA h 148 (fun q => if 0 ≤ q ∧ q < 52 then 0 else hI h 148 q)) 146) 0)) 148 q) = bgR (hI h 146) (hI h 148) := by
      have e1 : hI (sA h 148 (fun q => if 0 ≤ q ∧ q < 52 then 0 else hI h 148 q)) 148 = (fun q => if q < 52 then 0 else hI h 148 q) := by
        rw [hI_sA, if_pos rfl]
        funext q
        by_cases hq : q < 52
        · rw [if_pos hq, if_pos (by omega)]
        · rw [if_neg hq, if_neg (by omega)]
      have e2 : hI (sA h 148 (fun q => if 0 ≤ q ∧ q < 52 then 0 else hI h 148 q)) 146 = hI h 146 := by
        rw [hI_sA]
        exact if_neg (by decide)
      rw [e1, e2]
      funext q
      unfold bgR
      rw [hI_sA, if_pos (rfl : 148 = 148)]
    rw [er, vn_0, o145_pI H1, Option.bind_some, o145_R6 H2, Option.bind_some, o151_s0 H2, Option.bind_some, o145_R6 H3, Option.bind_some, o151_s1 H3, Option.bind_some, o145_pI H4, Option.bind_some]
  · exact (((((Fs.refl h _).sA (by decide)).sA (by decide)).sA (by decide)).sA (by decide)).sA (by decide)
  · rw [hI_sA, if_neg (by decide), hI_sA, if_neg (by decide), hI_sA, if_neg (by decide), hI_sA, if_neg (by decide), hI_sA, if_pos rfl]
    exact bgR_ry V R
  · rw [sI_ne _ _ _ _ _ (by decide), sI_ob _ _ _ _ _ (by decide), sI_ob _ _ _ _ _ (by decide), sI_at]
  · rw [sI_at]
  · rw [sI_ob _ _ _ _ _ (by decide), sI_ne _ _ _ _ _ (by decide), sI_at]
  · rw [sI_ob _ _ _ _ _ (by decide), sI_at]
  · rw [sI_ne _ _ _ _ _ h10, sI_ob _ _ _ _ _ (by decide), sI_ob _ _ _ _ _ (by decide), sI_ne _ _ _ _ _ h4, hI_sA, if_neg (by decide)]
theorem vy_bg {τ : TT} (V : VT2 τ) : VY τ (bgP τ) := ⟨⟨0, by omega, rfl⟩, Or.inl rfl, fun p hp => ⟨(V.2.1 p hp).1, (V.2.1 p hp).2.1⟩, fun k _ => ⟨rfl, rfl⟩, fun k _ => ⟨0, by omega, rfl⟩⟩
end BEGINS
theorem rt_copy {τ : TT} {t u : Nat → Int32} (V : VT τ) (R : RT0 t τ) (e : ∀ q, q < 50 → u q = t q) : RT0 u τ := by
  obtain ⟨t1, t2, t3, t4, t5⟩ := R
  have v1 := V.1
  have v2 := V.2
  refine ⟨by rw [e _ (by omega)]; exact t1, by rw [e _ (by omega)]; exact t2, fun p hp => ?_, fun k hk => ?_, fun d hd => ?_⟩
  · rw [e _ (by omega), e _ (by omega), e _ (by omega)]; exact t3 p hp
  · rw [e _ (by omega), e _ (by omega)]; exact t4 k hk
  · rw [e _ (by omega)]; exact t5 d hd
theorem cp50 {h : AH} {o1 o2 : Nat} (H : Lo h) (h1 : o1 < 158 ∧ lyS o1 = (10, 50)) (h2 : o2 < 158 ∧ lyS o2 = (10, 50)) (hne : o1 ≠ o2) : ∃ g, F_X5_copies h o1 0 o2 0 50 = some (sA h o2 g) ∧ ∀ q, q < 50 → g q = hI h o1 q := by
  refine ⟨_, copies_ok 0 0 50 H h1 h2 hne (by omega) (by omega) (by omega) (by omega), fun q hq => ?_⟩
  show (if 0 ≤ q ∧ q < 0 + 50 then hI h o1 (0 + (q - 0)) else hI h o2 q) = hI h o1 q
  rw [if_pos (by omega), Nat.zero_add, Nat.sub_zero]
section FAULT
variable {σ : SG}
theorem reading (V : VI σ) : ∃ ans cnt τ', (ans = -1 → VT2 τ') ∧
    (∀ h, Lo h → CI h σ → ∃ h3 h', F_X2_copyFrom h 10 3 = some h3 ∧ Lo h3 ∧ F_X1_readInto h3 1 10 = some (ans, h') ∧ Ec h h' ∧ (ans = -1 → CT h' 10 τ' ∧ hI h' 1 2 = nI cnt)) ∧
    (∀ h, Lo h → RI h σ → ∃ h', F_X5_reads h 145 = some (ans, h') ∧ Er h h' ∧ (ans = -1 → RT0 (hI h' 147) τ' ∧ hI h' 145 16 = nI cnt)) := by
  have hl := V.2.2.2.2.2.1
  have hX := V.2.2.2.2.2.2
  obtain ⟨ans, cnt, τ', l1, l2, l3⟩ := rd_loop hl hX 13 0 (by omega) (zT σ) 0 V.1 (by omega)
  refine ⟨ans, cnt, τ', l1, fun h H C => ?_, fun h H R => ?_⟩
  · obtain ⟨h3, k1, k2, k3⟩ := c_tcopy H to_10 to_3 (by decide) V.1.1 C.1
    have H3 := H.fr k2
    have E3 : Ec h h3 := k2.dc.ec
    have F4 : Tx h3 (sI h3 1 2 0) [2, 4] := (Tx.refl h3 _).put (by decide) _
    have F5 : Tx h3 (sI (sI h3 1 2 0) 1 4 0) [2, 4] := F4.put (by decide) _
    have H4 := H3.fr F4.1
    have H5 := H3.fr F5.1
    have E5 : Ec h (sI (sI h3 1 2 0) 1 4 0) := (E3.trans (ec_put _ (by decide))).trans (ec_put _ (by decide))
    obtain ⟨h', r1, r2, r3⟩ := l2 _ FU (by unfold FU; omega) H5 (TextC.ec C.2.2.2.2.2 E5) (by rw [sI_at, nI_0]) (by rw [sI_ne _ _ _ _ _ (by decide), sI_at, nI_0]) (k3.tx F5)
    refine ⟨h3, h', k1, H3, ?_, E5.trans r2, r3⟩
    unfold F_X1_readInto
    rw [o1_ck H3, Option.bind_some, o1_pI H3, Option.bind_some, o1_pI H4, Option.bind_some]
    exact r1
  · obtain ⟨g, g1, g2⟩ := cp50 H ls_146 ls_147 (by decide)
    have H3 : Lo (sA h 147 g) := H.sA _ _
    have E3 : Er h (sA h 147 g) := ⟨(Fs.refl h _).sA (by decide), fun j _ => by rw [hI_sA, if_neg (by decide)]⟩
    have H4 : Lo (sI (sA h 147 g) 145 11 0) := H3.sA _ _
    have H5 : Lo (sI (sI (sA h 147 g) 145 11 0) 145 16 0) := H4.sA _ _
    have E5 : Er h (sI (sI (sA h 147 g) 145 11 0) 145 16 0) := (E3.trans (er_put _ (by decide))).trans (er_put _ (by decide))
    have R5 : RT0 (hI (sI (sI (sA h 147 g) 145 11 0) 145 16 0) 147) (zT σ) := by
      rw [sI_ob _ _ _ _ _ (by decide), sI_ob _ _ _ _ _ (by decide), hI_sA, if_pos rfl]
      exact rt_copy V.1.1 R.1 g2
    obtain ⟨h', r1, r2, r3⟩ := l3 _ FU (by unfold FU; omega) H5 (TextR.er R.2.2.2.2.2 E5) (by rw [sI_ne _ _ _ _ _ (by decide), sI_at, nI_0]) (by rw [sI_at, nI_0]) R5
    refine ⟨h', ?_, E5.trans r2, r3⟩
    unfold F_X5_reads
    rw [o145_ck H, Option.bind_some, o145_R0 H, Option.bind_some, o145_R1 H, Option.bind_some, g1, Option.bind_some, o145_pI H3, Option.bind_some, o145_pI H4, Option.bind_some]
    exact r1
theorem CI.ec {h h' : AH} (C : CI h σ) (V : VI σ) (E : Ec h h') : CI h' σ := C.keep (fun q _ h1 h2 _ _ => E.2.1 q h1 h2) (E.2.2 1 (by decide)) (fun k => by rw [E.1.2.2]) V
theorem RI.er {h h' : AH} (R : RI h σ) (E : Er h h') : RI h' σ := by
  have k : ∀ q ∈ [146, 148, 149, 150, 151, 152, 153], q ∉ [145, 147] := by decide
  exact R.keep (fun q hq => E.1.2.2.2 q (k q hq)) (E.2 4 (by decide)) (E.2 8 (by decide)) (E.2 10 (by decide))
theorem Ec.c {h h' : AH} (H : Lo h) (E : Ec h h') : FrC h h' := ⟨H.ec E, fun q hq => E.2.1 q (by omega) (by omega)⟩
theorem Er.r {h h' : AH} (H : Lo h) (E : Er h h') : FrR h h' := E.1.r H (by decide)
theorem op_fault (V : VI σ) : Op (fun h => F_X4_fault h 0) (fun h => F_X5_fault h 145) σ := by
  obtain ⟨ans, cnt, τ', l1, l2, l3⟩ := reading V
  refine ⟨ans, σ, V, fun h H C => ?_, fun h H R => ?_⟩
  · obtain ⟨h3, h', k1, H3, k2, k3, -⟩ := l2 h H C
    refine ⟨h', ?_, C.ec V k3, k3.c H⟩
    show F_X4_fault h 0 = _
    unfold F_X4_fault
    rw [o0_ck H, Option.bind_some, o0_R2 H, Option.bind_some, o0_R1 H, Option.bind_some, k1, Option.bind_some, o0_R0 H3, Option.bind_some, o0_R2 H3, Option.bind_some, k2, Option.bind_some]
  · obtain ⟨h', k2, k3, -⟩ := l3 h H R
    refine ⟨h', ?_, R.er k3, k3.r H⟩
    show F_X5_fault h 145 = _
    unfold F_X5_fault
    rw [o145_ck H, Option.bind_some, k2, Option.bind_some]
theorem o39_s0 {h : AH} {v : Int32} (H : Lo h) : stA h 39 12 0 v = some (sI h 39 0 v) := o39_st (k := 0) H (by decide)
theorem o39_s1 {h : AH} {v : Int32} (H : Lo h) : stA h 39 12 1 v = some (sI h 39 1 v) := o39_st (k := 1) H (by decide)
theorem yd_loop {β : Type} {kk : AH → Int32 → Option β} {h : AH} (H : Lo h) : L_X4_yard_74 0 kk FU h 0 = kk (sI (sI h 39 0 0) 39 1 0) 2 := by
  have H1 : Lo (sI h 39 0 0) := H.sA _ _
  have H2 : Lo (sI (sI h 39 0 0) 39 1 0) := H1.sA _ _
  have eF : FU = 997 + 1 + 1 + 1 := by unfold FU; rfl
  rw [eF]
  conv => lhs; unfold L_X4_yard_74
  rw [if_neg (by decide), o0_R8 H, Option.bind_some, vn_0, o39_s0 H, Option.bind_some, show (0 : Int32) + 1 = 1 by decide]
  conv => lhs; unfold L_X4_yard_74
  rw [if_neg (by decide), o0_R8 H1, Option.bind_some, vn_0, o39_s1 H1, Option.bind_some, show (1 : Int32) + 1 = 2 by decide]
  conv => lhs; unfold L_X4_yard_74
  rw [if_pos (by decide)]
theorem op_yard (V : VI σ) : Op (fun h => F_X4_yard h 0) (fun h => F_X5_yard h 145) σ := by
  obtain ⟨ans, cnt, τ', l1, l2, l3⟩ := reading V
  by_cases ha : ans = -1
  · have V' := l1 ha
    refine ⟨nI cnt, (τ', bgP τ', (0, zP σ), ((fun _ => false), zK σ), (0, zD σ), (0, zX σ)), ⟨V', vy_bg V', ⟨by show 0 ≤ 8; omega, fun i hi => absurd hi (Nat.not_lt_zero i)⟩, (fun k _ z => by cases z), ⟨by show 0 ≤ 6; omega, fun i hi => absurd hi (Nat.not_lt_zero i)⟩, by show 0 ≤ 160; omega, fun i hi => absurd hi (Nat.not_lt_zero i)⟩, fun h H C => ?_, fun h H R => ?_⟩
    · obtain ⟨h3, h6, k1, H3, k2, k3, k4⟩ := l2 h H C
      have H6 := H.ec k3
      obtain ⟨T6, n6⟩ := k4 ha
      obtain ⟨h9, a1, a2, a3⟩ := c_tcopy H6 to_3 to_10 (by decide) V'.1 T6
      have H9 := H6.fr a2
      have F11 : Fr h9 (sI h9 1 1 0) 1 2 := (Fr.refl h9 _ _).sA (by omega) (by omega)
      have H11 := H9.fr F11
      obtain ⟨h14, b1, b2, b3⟩ := c_begin H11 yo_17 to_3 V'.1 (a3.fr F11 (Or.inr (by omega)))
      have H14 := H11.fr b2
      have H16 : Lo (sI h14 40 3 0) := H14.sA _ _
      have H17 : Lo (sI (sI h14 40 3 0) 0 6 0) := H16.sA _ _
      have T14 : CT h14 3 τ' := (a3.fr F11 (Or.inr (by omega))).fr b2 (Or.inl (by omega))
      obtain ⟨-, -, ⟨-, π, p1, p2, p3⟩, -, -, -⟩ := C
      have eh : h14.1 = h14.1 := rfl
      generalize hh : sI (sI (sI (sI h14 40 3 0) 0 6 0) 39 0 0) 39 1 0 = h19
      have u : ∀ q, q ≠ 40 → q ≠ 0 → q ≠ 39 → hI h19 q = hI h14 q := fun q a b c => by
        rw [← hh, hI_sA, if_neg c, hI_sA, if_neg c, hI_sA, if_neg b, hI_sA, if_neg a]
      have uR : hR h19 = hR h := by
        have : hR h19 = hR h14 := by rw [← hh]; rfl
        rw [this, b2.2.2.1, F11.2.2.1, a2.2.2.1, k3.1.2.2]
      have H19 : Lo h19 := by rw [← hh]; exact (H17.sA _ _).sA _ _
      have n19 : hI h19 1 2 = nI cnt := by
        rw [u 1 (by decide) (by decide) (by decide), b2.2.2.2 1 (by omega), sI_ne _ _ _ _ _ (by decide), a2.2.2.2 1 (by omega)]; exact n6
      refine ⟨h19, ?_, ⟨?_, ?_, ⟨?_, π, fun i hi => by rw [uR]; exact p1 i hi, p2, fun i hi => absurd hi (Nat.not_lt_zero i)⟩, fun k hk => ⟨?_, (fun z => by cases z)⟩, ⟨?_, fun i hi => absurd hi (Nat.not_lt_zero i)⟩, ?_, fun i hi => absurd hi (Nat.not_lt_zero i)⟩, H19, fun q hq => ?_⟩
      · show F_X4_yard h 0 = _
        unfold F_X4_yard
        rw [o0_ck H, Option.bind_some, o0_R2 H, Option.bind_some, o0_R1 H, Option.bind_some, k1, Option.bind_some, o0_R0 H3, Option.bind_some, o0_R2 H3, Option.bind_some, k2, Option.bind_some, if_pos ha, o0_R1 H6, Option.bind_some, o0_R2 H6, Option.bind_some, a1, Option.bind_some, o0_R0 H9, Option.bind_some, o1_pI H9, Option.bind_some, o0_R3 H11, Option.bind_some, o0_R1 H11, Option.bind_some, b1, Option.bind_some, o0_R9 H14, Option.bind_some, o40_pI H14, Option.bind_some, o0_pI H16, Option.bind_some, yd_loop H17, hh, o0_R0 H19, Option.bind_some, o1_gI H19, Option.bind_some, n19]
      · show CT h19 3 τ'
        have T := T14
        unfold CT at T ⊢
        rw [u 3 (by decide) (by decide) (by decide), u (3 + 1) (by decide) (by decide) (by decide), u (3 + 2) (by decide) (by decide) (by decide), u (3 + 3) (by decide) (by decide) (by decide), u (3 + 4) (by decide) (by decide) (by decide), u (3 + 5) (by decide) (by decide) (by decide), u (3 + 6) (by decide) (by decide) (by decide)]
        exact T
      · show CY τ' (Yc h19 17) (bgP τ')
        have yk : ∀ i, i < 10 → Yc h19 17 i = Yc h14 17 i := fun i hi => by
          funext j
          show hI h19 (17 + i) j = hI h14 (17 + i) j
          rw [u (17 + i) (by omega) (by omega) (by omega)]
        have b := b3
        unfold CY at b ⊢
        rw [yk 0 (by omega), yk 1 (by omega), yk 2 (by omega), yk 3 (by omega), yk 4 (by omega), yk 5 (by omega), yk 6 (by omega), yk 7 (by omega), yk 8 (by omega), yk 9 (by omega)]
        exact b
      · show hI h19 0 6 = nI 0
        rw [← hh, sI_ob _ _ _ _ _ (by decide), sI_ob _ _ _ _ _ (by decide), sI_at, nI_0]
      · show hI h19 39 k = bI false
        have : k = 0 ∨ k = 1 := by omega
        rcases this with rfl | rfl
        · rw [← hh, sI_ne _ _ _ _ _ (by decide), sI_at]; rfl
        · rw [← hh, sI_at]; rfl
      · show hI h19 40 3 = nI 0
        rw [← hh, sI_ob _ _ _ _ _ (by decide), sI_ob _ _ _ _ _ (by decide), sI_ob _ _ _ _ _ (by decide), sI_at, nI_0]
      · show hI h19 1 1 = nI 0
        rw [u 1 (by decide) (by decide) (by decide), b2.2.2.2 1 (by omega), sI_at, nI_0]
      · rw [u q (by omega) (by omega) (by omega), b2.2.2.2 q (by omega), F11.2.2.2 q (by omega), a2.2.2.2 q (by omega), k3.2.1 q (by omega) (by omega)]
    · obtain ⟨h1, k2, k3, k4⟩ := l3 h H R
      have H1 := H.fs k3.1
      obtain ⟨R1, n1⟩ := k4 ha
      obtain ⟨g, g1, g2⟩ := cp50 H1 ls_147 ls_146 (by decide)
      have H4 : Lo (sA h1 146 g) := H1.sA _ _
      have H5 : Lo (sI (sA h1 146 g) 145 8 0) := H4.sA _ _
      have F5 : Fs h1 (sI (sA h1 146 g) 145 8 0) [145, 146] := ((Fs.refl h1 _).sA (by decide)).sA (by decide)
      have R5 : RT (sI (sA h1 146 g) 145 8 0) τ' := by
        unfold RT
        rw [sI_ob _ _ _ _ _ (by decide), hI_sA, if_pos rfl]
        exact rt_copy V'.1 R1 g2
      obtain ⟨h6, b1, b2, b3, b4, b5, b6, b7, b8⟩ := r_begins H5 V'.1 R5
      have H6 := H5.fs b2
      have n6 : hI h6 145 16 = nI cnt := by
        rw [b8 16 (by decide) (by decide), sI_ne _ _ _ _ _ (by decide), hI_sA, if_neg (by decide)]; exact n1
      have S1 : Fs h h6 [145, 146, 147, 148, 151] := ((k3.1.wide (by decide)).trans (F5.wide (by decide))).trans (b2.wide (by decide))
      refine ⟨h6, ?_, ⟨?_, b3, ⟨?_, fun i hi => absurd hi (Nat.not_lt_zero i)⟩, fun k hk => ⟨?_, (fun z => by cases z)⟩, ⟨?_, fun i hi => absurd hi (Nat.not_lt_zero i)⟩, ?_, fun i hi => absurd hi (Nat.not_lt_zero i)⟩, S1.r H (by decide)⟩
      · show F_X5_yard h 145 = _
        unfold F_X5_yard
        rw [o145_ck H, Option.bind_some, k2, Option.bind_some, if_pos ha, o145_R1 H1, Option.bind_some, o145_R0 H1, Option.bind_some, g1, Option.bind_some, o145_pI H4, Option.bind_some, b1, Option.bind_some, o145_gI H6, Option.bind_some, n6]
      · show RT h6 τ'
        unfold RT
        rw [b2.2.2.2 146 (by decide)]
        exact R5
      · show hI h6 145 4 = nI 0
        rw [b4, nI_0]
      · show hI h6 151 k = bI false
        have : k = 0 ∨ k = 1 := by omega
        rcases this with rfl | rfl
        · rw [b6]; rfl
        · rw [b7]; rfl
      · show hI h6 145 10 = nI 0
        rw [b5, nI_0]
      · show hI h6 145 8 = nI 0
        rw [b8 8 (by decide) (by decide), sI_at, nI_0]
  · refine ⟨-4, σ, V, fun h H C => ?_, fun h H R => ?_⟩
    · obtain ⟨h3, h', k1, H3, k2, k3, -⟩ := l2 h H C
      refine ⟨h', ?_, C.ec V k3, k3.c H⟩
      show F_X4_yard h 0 = _
      unfold F_X4_yard
      rw [o0_ck H, Option.bind_some, o0_R2 H, Option.bind_some, o0_R1 H, Option.bind_some, k1, Option.bind_some, o0_R0 H3, Option.bind_some, o0_R2 H3, Option.bind_some, k2, Option.bind_some, if_neg ha]
    · obtain ⟨h', k2, k3, -⟩ := l3 h H R
      refine ⟨h', ?_, R.er k3, k3.r H⟩
      show F_X5_yard h 145 = _
      unfold F_X5_yard
      rw [o145_ck H, Option.bind_some, k2, Option.bind_some, if_neg ha]
end FAULT
