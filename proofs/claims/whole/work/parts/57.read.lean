/-! the reading of a text, both sides -/
section READ
variable {l : Nat} {X : Nat → Int32}
def Ec (h h' : AH) : Prop := (hN h' = hN h ∧ hS h' = hS h ∧ hR h' = hR h) ∧ (∀ q, q ≠ 1 → (q < 10 ∨ 17 ≤ q) → hI h' q = hI h q) ∧ ∀ j, j ∉ [2, 3, 4] → hI h' 1 j = hI h 1 j
theorem Ec.trans {h h1 h2 : AH} (x : Ec h h1) (y : Ec h1 h2) : Ec h h2 := ⟨⟨y.1.1.trans x.1.1, y.1.2.1.trans x.1.2.1, y.1.2.2.trans x.1.2.2⟩, fun q h1 h2 => (y.2.1 q h1 h2).trans (x.2.1 q h1 h2), fun j hj => (y.2.2 j hj).trans (x.2.2 j hj)⟩
theorem Dc.ec {h h1 : AH} (x : Dc h h1) : Ec h h1 := ⟨x.1, x.2.1, fun j hj => x.2.2 j (fun z => hj (List.mem_cons_of_mem _ z))⟩
theorem ec_put {h : AH} {j : Nat} (v : Int32) (hj : j ∈ [2, 3, 4]) : Ec h (sI h 1 j v) := ⟨⟨rfl, rfl, rfl⟩, fun q hq _ => by rw [hI_sA, if_neg hq], fun k hk => sI_ne _ _ _ _ _ (fun e => hk (by rw [e]; exact hj))⟩
theorem TextC.ec {h h' : AH} (C : TextC h l X) (T : Ec h h') : TextC h' l X := by
  unfold TextC at C ⊢
  rw [T.2.2 1 (by decide), T.2.1 2 (by decide) (by omega)]
  exact C
theorem Lo.ec {h h1 : AH} (H : Lo h) (x : Ec h h1) : Lo h1 := ⟨x.1.1.trans H.1, fun q hq => by rw [x.1.2.1]; exact H.2.1 q hq, fun q k hq hn => by rw [x.1.2.2]; exact H.2.2 q k hq hn⟩
def Er (h h' : AH) : Prop := Fs h h' [145, 147] ∧ ∀ j, j ∉ [11, 12, 13, 15, 16] → hI h' 145 j = hI h 145 j
theorem Er.trans {h h1 h2 : AH} (x : Er h h1) (y : Er h1 h2) : Er h h2 := ⟨x.1.trans y.1, fun j hj => (y.2 j hj).trans (x.2 j hj)⟩
theorem Dr.er {h h1 : AH} (x : Dr h h1) : Er h h1 := ⟨x.1, fun j hj => x.2 j (fun z => hj (by revert z; simp only [List.mem_cons, List.not_mem_nil, or_false]; omega))⟩
theorem er_put {h : AH} {j : Nat} (v : Int32) (hj : j ∈ [11, 12, 13, 15, 16]) : Er h (sI h 145 j v) := ⟨(Fs.refl h _).sA (by decide), fun k hk => sI_ne _ _ _ _ _ (fun e => hk (by rw [e]; exact hj))⟩
theorem TextR.er {h h' : AH} (C : TextR h l X) (T : Er h h') : TextR h' l X := by
  unfold TextR at C ⊢
  rw [T.2 8 (by decide), T.1.2.2.2 152 (by decide)]
  exact C
theorem tk_end {b : Nat} (h : ¬ b < l) : tkP X l b = 0 := by unfold tkP; rw [if_neg h]
theorem tk_semi {b : Nat} (h : b < l) (e : X b = 59) : tkP X l b = 3 := by
  unfold tkP
  rw [if_pos h, e, if_neg (by decide), if_neg (by decide), if_pos rfl]
theorem tk_other {b : Nat} (h : b < l) (e : ¬ X b = 59) : ¬ tkP X l b = 3 ∧ ¬ tkP X l b = 0 := by
  unfold tkP
  rw [if_pos h, if_neg e]
  split
  · decide
  · split
    · split <;> decide
    · decide
/-- what both sides make of the whole text from a clause on -/
def Lp (l : Nat) (X : Nat → Int32) (τ : TT) (n pos : Nat) (ans : Int32) (cnt : Nat) (τ' : TT) : Prop :=
  (ans = -1 → VT2 τ') ∧
  (∀ h f, 14 - n < f → Lo h → TextC h l X → hI h 1 4 = nI pos → hI h 1 2 = nI n → CT h 10 τ → ∃ h', L_X1_readInto_12 1 10 (fun h12 _ => Option.bind (gtI h12 1 1 3) fun v14 => some (v14, h12)) f h (nI n) = some (ans, h') ∧ Ec h h' ∧ (ans = -1 → CT h' 10 τ' ∧ hI h' 1 2 = nI cnt)) ∧
  (∀ h f, 14 - n < f → Lo h → TextR h l X → hI h 145 11 = nI pos → hI h 145 16 = nI n → RT0 (hI h 147) τ → ∃ h', L_X5_reads_27 145 (fun h10 _ => Option.bind (gtI h10 145 5 13) fun v12 => if ¬ v12 = 0 then Option.bind (gtI h10 145 5 12) fun v13 => some (v13, h10) else some (-1, h10)) f h 1 = some (ans, h') ∧ Er h h' ∧ (ans = -1 → RT0 (hI h' 147) τ' ∧ hI h' 145 16 = nI cnt))
theorem rd_step (hl : l ≤ 160) (hX : ∀ i, i < l → ∃ c, c ≤ 255 ∧ X i = nI c) {n pos : Nat} {τ : TT} (hn : n < 14) (V : VT2 τ) (hp : pos ≤ l) (nx : n + 1 < 14 → ∀ τ pos, VT2 τ → pos ≤ l → ∃ ans cnt τ', Lp l X τ (n + 1) pos ans cnt τ') : ∃ ans cnt τ', Lp l X τ n pos ans cnt τ' := by
  obtain ⟨ok, b, e, τ1, c1, c2, c3, c4, c5⟩ := clause (τ := τ) V hl hX hp
  have h14 : ¬ (14 : Int32) ≤ nI n := nI_ge (b := 14) (by omega) (by omega)
  have q10 : ¬ (1 : Int32) = 0 := by decide
  cases ok with
  | false =>
    refine ⟨nI b, 0, τ, fun z => absurd z (nI_m1 (by omega)), fun h f hf H C e4 e2 T => ?_, fun h f hf H C e4 e2 R => ?_⟩
    · obtain ⟨f, rfl⟩ : ∃ g, f = g + 1 := ⟨f - 1, by omega⟩
      obtain ⟨h1, k1, k2, k3, k4, k5⟩ := c4 h H C e4 T
      have H1 := H.dc k2
      refine ⟨h1, ?_, k2.ec, fun z => absurd z (nI_m1 (by omega))⟩
      conv => lhs; unfold L_X1_readInto_12
      rw [if_neg h14, k1, Option.bind_some, if_neg (not_not_intro bI_f), o1_gI H1, Option.bind_some, k3]
    · obtain ⟨f, rfl⟩ : ∃ g, f = g + 1 := ⟨f - 1, by omega⟩
      obtain ⟨h1, h2, k0, k1, k2, k3, k4, k5⟩ := c5 h H C e4 R
      have H2 := H.fs k2.1
      refine ⟨h2, ?_, k2.er, fun z => absurd z (nI_m1 (by omega))⟩
      conv => lhs; unfold L_X5_reads_27
      rw [if_neg q10, k0, Option.bind_some, k1, Option.bind_some, if_neg (not_not_intro bI_f), o145_gI H2, Option.bind_some, k3]
  | true =>
    have hb := tB_le X c2
    have he := tE_le X hb.2
    have V1 := c3 rfl
    -- the class's step up to the token after the clause
    have SC : ∀ h f, Lo h → TextC h l X → hI h 1 4 = nI pos → hI h 1 2 = nI n → CT h 10 τ → ∃ h4, Lo h4 ∧ Ec h h4 ∧ hI h4 1 2 = nI (n + 1) ∧ hI h4 1 3 = nI (tB X l e) ∧ hI h4 1 4 = nI (tE X l (tB X l e)) ∧ TextC h4 l X ∧ CT h4 10 τ1 ∧ ∀ K, L_X1_readInto_12 1 10 K (f + 1) h (nI n) = if nI (tB X l e) < nI l then (Option.bind (ldA h4 2 11 (nI (tB X l e))) fun v9 => if v9 = 59 then L_X1_readInto_12 1 10 K f h4 (nI (n + 1)) else some (nI (tB X l e), h4)) else some (-1, h4) := by
      intro h f H C e4 e2 T
      obtain ⟨h1, k1, k2, k3, k4, k5⟩ := c4 h H C e4 T
      have H1 := H.dc k2
      have F3 : Tx h1 (sI h1 1 2 (nI (n + 1))) [2] := (Tx.refl h1 [2]).put (by decide) _
      have H3 := H1.fr F3.1
      have E3 : Ec h (sI h1 1 2 (nI (n + 1))) := k2.ec.trans (ec_put _ (by decide))
      have C3 := C.ec E3
      have e43 : hI (sI h1 1 2 (nI (n + 1))) 1 4 = nI e := by rw [F3.2 4 (by decide)]; exact k4
      obtain ⟨h4, t1, t2, t3, t4⟩ := c_tok hl H3 C3 c2 e43
      have H4 := H3.fr t2.1
      have E4 : Ec h h4 := E3.trans t2.dc.ec
      have C4 := C.ec E4
      refine ⟨h4, H4, E4, by rw [t2.2 2 (by decide), sI_at], t3, t4, C4, ((k5 rfl).tx F3).tx t2, fun K => ?_⟩
      conv => lhs; unfold L_X1_readInto_12
      rw [if_neg h14, k1, Option.bind_some, if_pos bI_t, o1_gI H1, Option.bind_some, k2.2.2 2 (by decide), e2, nI_1, o1_pI H1, Option.bind_some, t1, Option.bind_some, o1_gI H4, Option.bind_some, o1_gI H4, Option.bind_some, o1_R0 H4, Option.bind_some, Option.bind_some, t3, C4.1]
      rfl
    have SR : ∀ h f, Lo h → TextR h l X → hI h 145 11 = nI pos → hI h 145 16 = nI n → RT0 (hI h 147) τ → ∃ h4, Lo h4 ∧ Er h h4 ∧ hI h4 145 16 = nI (n + 1) ∧ hI h4 145 12 = nI (tB X l e) ∧ hI h4 145 11 = nI (tE X l (tB X l e)) ∧ hI h4 145 13 = tkP X l (tB X l e) ∧ TextR h4 l X ∧ RT0 (hI h4 147) τ1 ∧ ∀ K, L_X5_reads_27 145 K (f + 1) h 1 = Option.bind (α := Int32) (if ¬ tkP X l (tB X l e) = 3 then some 0 else if (14 : Int32) ≤ nI (n + 1) then some 0 else some 1) fun q7 => L_X5_reads_27 145 K f h4 q7 := by
      intro h f H C e4 e2 R
      obtain ⟨h1, h2, k0, k1, k2, k3, k4, k5⟩ := c5 h H C e4 R
      have H2 := H.fs k2.1
      have E3 : Er h (sI h2 145 16 (nI (n + 1))) := k2.er.trans (er_put _ (by decide))
      have H3 := H.fs E3.1
      have C3 := C.er E3
      have e43 : hI (sI h2 145 16 (nI (n + 1))) 145 11 = nI e := by rw [sI_ne _ _ _ _ _ (by decide)]; exact k4
      obtain ⟨h4, t1, t2, t3, t4, t5, -⟩ := r_step hl hX H3 C3 c2 e43
      have H4 := H3.fs t2.1
      have E4 : Er h h4 := E3.trans t2.dr.er
      have e16 : hI h4 145 16 = nI (n + 1) := by rw [t2.2 16 (by decide), sI_at]
      refine ⟨h4, H4, E4, e16, t3, t4, t5, C.er E4, ?_, fun K => ?_⟩
      · rw [t2.1.2.2.2 147 (by decide), sI_ob _ _ _ _ _ (by decide)]; exact k5 rfl
      · conv => lhs; unfold L_X5_reads_27
        rw [if_neg q10, k0, Option.bind_some, k1, Option.bind_some, if_pos bI_t, o145_gI H2, Option.bind_some, k2.2 16 (by decide), e2, nI_1, o145_pI H2, Option.bind_some, t1, Option.bind_some, o145_gI H4, Option.bind_some, t5, o145_gI H4, Option.bind_some, e16]
    have KR : ∀ h4 f, Lo h4 → L_X5_reads_27 145 (fun h10 _ => Option.bind (gtI h10 145 5 13) fun v12 => if ¬ v12 = 0 then Option.bind (gtI h10 145 5 12) fun v13 => some (v13, h10) else some (-1, h10)) (f + 1) h4 0 = if ¬ hI h4 145 13 = 0 then some (hI h4 145 12, h4) else some (-1, h4) := by
      intro h4 f H4
      conv => lhs; unfold L_X5_reads_27
      rw [if_pos rfl, o145_gI H4, Option.bind_some, o145_gI H4, Option.bind_some]
    by_cases hbl : tB X l e < l
    · have hbl' : nI (tB X l e) < nI l := nI_lt hbl (by omega)
      have m1 : ¬ nI (tB X l e) = -1 := nI_m1 (by omega)
      by_cases hs : X (tB X l e) = 59
      · by_cases hn1 : n + 1 < 14
        · obtain ⟨ans, cnt, τ', l1, l2, l3⟩ := nx hn1 τ1 (tE X l (tB X l e)) V1 he.2
          have hn14 : ¬ (14 : Int32) ≤ nI (n + 1) := nI_ge (b := 14) (by omega) (by omega)
          refine ⟨ans, cnt, τ', l1, fun h f hf H C e4 e2 T => ?_, fun h f hf H C e4 e2 R => ?_⟩
          · obtain ⟨f, rfl⟩ : ∃ g, f = g + 1 := ⟨f - 1, by omega⟩
            obtain ⟨h4, H4, E4, s2, s3, s4, C4, T4, st⟩ := SC h f H C e4 e2 T
            obtain ⟨h', r1, r2, r3⟩ := l2 h4 f (by omega) H4 C4 s4 s2 T4
            refine ⟨h', ?_, E4.trans r2, r3⟩
            rw [st, if_pos hbl', o2_ld H4 (by omega), Option.bind_some, C4.2 _ hbl, if_pos hs]
            exact r1
          · obtain ⟨f, rfl⟩ : ∃ g, f = g + 1 := ⟨f - 1, by omega⟩
            obtain ⟨h4, H4, E4, s1, s2, s3, s4, C4, R4, st⟩ := SR h f H C e4 e2 R
            obtain ⟨h', r1, r2, r3⟩ := l3 h4 f (by omega) H4 C4 s3 s1 R4
            refine ⟨h', ?_, E4.trans r2, r3⟩
            rw [st, if_neg (not_not_intro (tk_semi hbl hs)), if_neg hn14, Option.bind_some]
            exact r1
        · have hn14 : (14 : Int32) ≤ nI (n + 1) := nI_le (a := 14) (by omega) (by omega)
          refine ⟨nI (tB X l e), 0, τ, fun z => absurd z m1, fun h f hf H C e4 e2 T => ?_, fun h f hf H C e4 e2 R => ?_⟩
          · obtain ⟨f, rfl⟩ : ∃ g, f = g + 1 + 1 := ⟨f - 2, by omega⟩
            obtain ⟨h4, H4, E4, s2, s3, s4, C4, T4, st⟩ := SC h (f + 1) H C e4 e2 T
            refine ⟨h4, ?_, E4, fun z => absurd z m1⟩
            rw [st, if_pos hbl', o2_ld H4 (by omega), Option.bind_some, C4.2 _ hbl, if_pos hs]
            conv => lhs; unfold L_X1_readInto_12
            rw [if_pos hn14, o1_gI H4, Option.bind_some, s3]
          · obtain ⟨f, rfl⟩ : ∃ g, f = g + 1 + 1 := ⟨f - 2, by omega⟩
            obtain ⟨h4, H4, E4, s1, s2, s3, s4, C4, R4, st⟩ := SR h (f + 1) H C e4 e2 R
            refine ⟨h4, ?_, E4, fun z => absurd z m1⟩
            rw [st, if_neg (not_not_intro (tk_semi hbl hs)), if_pos hn14, Option.bind_some, KR h4 f H4, s4, tk_semi hbl hs, if_pos (by decide), s2]
      · have to := tk_other hbl hs
        refine ⟨nI (tB X l e), 0, τ, fun z => absurd z m1, fun h f hf H C e4 e2 T => ?_, fun h f hf H C e4 e2 R => ?_⟩
        · obtain ⟨f, rfl⟩ : ∃ g, f = g + 1 := ⟨f - 1, by omega⟩
          obtain ⟨h4, H4, E4, s2, s3, s4, C4, T4, st⟩ := SC h f H C e4 e2 T
          refine ⟨h4, ?_, E4, fun z => absurd z m1⟩
          rw [st, if_pos hbl', o2_ld H4 (by omega), Option.bind_some, C4.2 _ hbl, if_neg hs]
        · obtain ⟨f, rfl⟩ : ∃ g, f = g + 1 + 1 := ⟨f - 2, by omega⟩
          obtain ⟨h4, H4, E4, s1, s2, s3, s4, C4, R4, st⟩ := SR h (f + 1) H C e4 e2 R
          refine ⟨h4, ?_, E4, fun z => absurd z m1⟩
          rw [st, if_pos to.1, Option.bind_some, KR h4 f H4, s4, if_pos to.2, s2]
    · have hbl' : ¬ nI (tB X l e) < nI l := fun z => hbl ((nI_ltI (by omega) (by omega)).mp z)
      refine ⟨-1, n + 1, τ1, fun _ => V1, fun h f hf H C e4 e2 T => ?_, fun h f hf H C e4 e2 R => ?_⟩
      · obtain ⟨f, rfl⟩ : ∃ g, f = g + 1 := ⟨f - 1, by omega⟩
        obtain ⟨h4, H4, E4, s2, s3, s4, C4, T4, st⟩ := SC h f H C e4 e2 T
        refine ⟨h4, ?_, E4, fun _ => ⟨T4, s2⟩⟩
        rw [st, if_neg hbl']
      · obtain ⟨f, rfl⟩ : ∃ g, f = g + 1 + 1 := ⟨f - 2, by omega⟩
        obtain ⟨h4, H4, E4, s1, s2, s3, s4, C4, R4, st⟩ := SR h (f + 1) H C e4 e2 R
        refine ⟨h4, ?_, E4, fun _ => ⟨R4, s1⟩⟩
        rw [st, if_pos (by rw [tk_end hbl]; decide), Option.bind_some, KR h4 f H4, s4, tk_end hbl, if_neg (not_not_intro rfl)]
theorem rd_loop (hl : l ≤ 160) (hX : ∀ i, i < l → ∃ c, c ≤ 255 ∧ X i = nI c) : ∀ (m n : Nat), n + (m + 1) = 14 → ∀ (τ : TT) (pos : Nat), VT2 τ → pos ≤ l → ∃ ans cnt τ', Lp l X τ n pos ans cnt τ' := by
  intro m
  induction m with
  | zero =>
    intro n hn τ pos V hp
    exact rd_step hl hX (by omega) V hp (fun z => absurd z (by omega))
  | succ m ih =>
    intro n hn τ pos V hp
    exact rd_step hl hX (by omega) V hp (fun _ => ih (n + 1) (by omega))
end READ
