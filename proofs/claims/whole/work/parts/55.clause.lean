/-! a clause, on both sides -/
section CLAUSE
variable {l : Nat} {X : Nat → Int32}
/-- the class's clause, its words tried -/
theorem c_cl {h : AH} (hl : l ≤ 160) (H : Lo h) (C : TextC h l X) {pos : Nat} (hp : pos ≤ l) (e4 : hI h 1 4 = nI pos) : ∃ h1, Tx h h1 [3, 4] ∧ hI h1 1 3 = nI (tB X l pos) ∧ hI h1 1 4 = nI (tE X l (tB X l pos)) ∧ F_X1_readClause h 1 10 = if bI (rdB X (tB X l pos) (tE X l (tB X l pos)) 0) = 0 then (if bI (rdB X (tB X l pos) (tE X l (tB X l pos)) 1) = 0 then (if bI (rdB X (tB X l pos) (tE X l (tB X l pos)) 2) = 0 then (if bI (rdB X (tB X l pos) (tE X l (tB X l pos)) 3) = 0 then (Option.bind (F_X1_kindRead h1 1) fun v6 => if v6 = (-1) then some (0, h1) else Option.bind (gtI h1 10 2 1) fun v7 => if 5 ≤ v7 then some (0, h1) else Option.bind (F_X1_readHen h1 1 10 v6) fun q8 => if q8.1 = 0 then some (0, q8.2) else some (1, q8.2)) else Option.bind (F_X1_readNews h1 1 10) fun q9 => Option.bind (bz q9.1) fun v10 => some (v10, q9.2)) else Option.bind (gtI h1 10 2 0) fun v11 => if 8 ≤ v11 then some (0, h1) else Option.bind (F_X1_readPlace h1 1 10) fun q12 => if q12.1 = 0 then some (0, q12.2) else some (1, q12.2)) else Option.bind (F_X2_clearNews h1 10) fun h13 => some (1, h13)) else Option.bind (F_X2_clear h1 10) fun h14 => some (1, h14) := by
  obtain ⟨h1, k1, k2, k3, k4⟩ := c_tok hl H C hp e4
  have hb := tB_le X hp
  have he := tE_le X hb.2
  have H1 := H.fr k2.1
  have C1 := C.tx k2 (by decide)
  refine ⟨h1, k2, k3, k4, ?_⟩
  have r0 := c_rd hl H1 C1 (show 0 < 8 by decide) k3 k4 he.1 he.2
  have r1 := c_rd hl H1 C1 (show 1 < 8 by decide) k3 k4 he.1 he.2
  have r2 := c_rd hl H1 C1 (show 2 < 8 by decide) k3 k4 he.1 he.2
  have r3 := c_rd hl H1 C1 (show 3 < 8 by decide) k3 k4 he.1 he.2
  unfold F_X1_readClause
  rw [o1_ck H, Option.bind_some, k1, Option.bind_some, r0, Option.bind_some, r1, Option.bind_some, r2, Option.bind_some, r3, Option.bind_some]
theorem c_kind {h : AH} (hl : l ≤ 160) (H : Lo h) (C : TextC h l X) {b e : Nat} (e3 : hI h 1 3 = nI b) (e4 : hI h 1 4 = nI e) (hbe : b ≤ e) (hel : e ≤ l) : F_X1_kindRead h 1 = some (if rdB X b e 4 then 0 else if rdB X b e 5 then 1 else if rdB X b e 6 then 2 else if rdB X b e 7 then 3 else -1) := by
  have r4 := c_rd hl H C (show 4 < 8 by decide) e3 e4 hbe hel
  have r5 := c_rd hl H C (show 5 < 8 by decide) e3 e4 hbe hel
  have r6 := c_rd hl H C (show 6 < 8 by decide) e3 e4 hbe hel
  have r7 := c_rd hl H C (show 7 < 8 by decide) e3 e4 hbe hel
  unfold F_X1_kindRead
  rw [o1_ck H, Option.bind_some, r4, Option.bind_some, r5, Option.bind_some, r6, Option.bind_some, r7, Option.bind_some]
  cases rdB X b e 4 <;> cases rdB X b e 5 <;> cases rdB X b e 6 <;> cases rdB X b e 7 <;> rfl
/-- what both sides make of a clause at pos, told τ -/
def Cl (l : Nat) (X : Nat → Int32) (τ : TT) (pos : Nat) (ok : Bool) (b e : Nat) (τ' : TT) : Prop :=
  b ≤ l ∧ e ≤ l ∧ (ok = true → VT2 τ') ∧
  (∀ h, Lo h → TextC h l X → hI h 1 4 = nI pos → CT h 10 τ → ∃ h', F_X1_readClause h 1 10 = some (bI ok, h') ∧ Dc h h' ∧ hI h' 1 3 = nI b ∧ hI h' 1 4 = nI e ∧ (ok = true → CT h' 10 τ')) ∧
  (∀ h, Lo h → TextR h l X → hI h 145 11 = nI pos → RT0 (hI h 147) τ → ∃ h1 h', F_X5_step h 145 = some h1 ∧ F_X5_readsClause h1 145 = some (bI ok, h') ∧ Dr h h' ∧ hI h' 145 12 = nI b ∧ hI h' 145 11 = nI e ∧ (ok = true → RT0 (hI h' 147) τ'))
theorem lk_k (i : Nat) {x : Int64} {X : Nat → Int32} {b : Nat} (hi : i < 8) (ht : tkP X l b = 1) (hx : x = wdP X b (tE X l b - b)) {K : Int64} (hK : K = lN (stW.getD i 0)) : (lg_cmp x K = 0) ↔ rdB X b (tE X l b) i = true := by
  rw [lgc, hx, hK]
  exact rd_yes hi ht
/-- no word that begins a clause -/
theorem cl_none {τ : TT} {pos : Nat} (hl : l ≤ 160) (hX : ∀ i, i < l → ∃ c, c ≤ 255 ∧ X i = nI c) (hp : pos ≤ l) (hn : ∀ i, i < 8 → rdB X (tB X l pos) (tE X l (tB X l pos)) i = false) : Cl l X τ pos false (tB X l pos) (tE X l (tB X l pos)) τ := by
  have hb := tB_le X hp
  have he := tE_le X hb.2
  refine ⟨hb.2, he.2, (fun z => by cases z), fun h H C e4 T => ?_, fun h H C e4 R => ?_⟩
  · obtain ⟨h1, k2, k3, k4, k5⟩ := c_cl hl H C hp e4
    have H1 := H.fr k2.1
    refine ⟨h1, ?_, k2.dc, k3, k4, (fun z => by cases z)⟩
    rw [k5, hn 0 (by decide), hn 1 (by decide), hn 2 (by decide), hn 3 (by decide), if_pos bI_f, if_pos bI_f, if_pos bI_f, if_pos bI_f, c_kind hl H1 (C.tx k2 (by decide)) k3 k4 he.1 he.2, hn 4 (by decide), hn 5 (by decide), hn 6 (by decide), hn 7 (by decide)]
    rfl
  · obtain ⟨h1, k1, k2, k3, k4, k5, k6, k7⟩ := r_step hl hX H C hp e4
    have H1 := H.fs k2.1
    refine ⟨h1, h1, k1, ?_, k2.dr, k3, k4, (fun z => by cases z)⟩
    unfold F_X5_readsClause
    rw [o145_ck H1, Option.bind_some, o145_gI H1, Option.bind_some, k5]
    by_cases ht : tkP X l (tB X l pos) = 1
    · have w := k6 ht
      have g : ∀ i, i < 8 → ∀ K : Int64, K = lN (stW.getD i 0) → ¬ lg_cmp (hL h1 145 14) K = 0 := fun i hi K hK z => by
        have := (lk_k (l := l) i hi ht w hK).mp z
        rw [hn i hi] at this
        cases this
      rw [if_pos ht, o145_gL H1, Option.bind_some, if_pos (g 0 (by decide) 2036429412 rfl), if_pos (g 2 (by decide) 482854658917 rfl), if_pos (g 3 (by decide) 1852143475 rfl), if_pos (g 1 (by decide) 1667329133 rfl), if_pos (g 4 (by decide) 465491813746 rfl), if_pos (g 5 (by decide) 108243635364985 rfl), if_pos (g 6 (by decide) 123649632527732 rfl), if_pos (g 7 (by decide) 426953502305 rfl), Option.bind_some, if_pos (by decide)]
      rfl
    · rw [if_neg ht]
      rfl
/-- the reference's clause at the i-th word: its word's tests -/
theorem r_cl {h : AH} {pos : Nat} (hl : l ≤ 160) (hX : ∀ i, i < l → ∃ c, c ≤ 255 ∧ X i = nI c) (hp : pos ≤ l) (H : Lo h) (C : TextR h l X) (e4 : hI h 145 11 = nI pos) {i : Nat} (hi : i < 8) (hr : rdB X (tB X l pos) (tE X l (tB X l pos)) i = true) : ∃ h1, F_X5_step h 145 = some h1 ∧ Rx h h1 [11, 12, 13, 15] ∧ hI h1 145 12 = nI (tB X l pos) ∧ hI h1 145 11 = nI (tE X l (tB X l pos)) ∧ hI h1 145 13 = 1 ∧ ∀ k, k < 8 → ∀ K : Int64, K = lN (stW.getD k 0) → (lg_cmp (hL h1 145 14) K = 0 ↔ k = i) := by
  obtain ⟨h1, k1, k2, k3, k4, k5, k6, k7⟩ := r_step hl hX H C hp e4
  have ht : tkP X l (tB X l pos) = 1 := by
    by_cases ht : tkP X l (tB X l pos) = 1
    · exact ht
    · rw [rd_no hi ht] at hr
      cases hr
  refine ⟨h1, k1, k2, k3, k4, k5.trans ht, fun k hk K hK => ?_⟩
  rw [lk_k (l := l) k hk ht (k6 ht) hK]
  constructor
  · intro z
    exact rd_one hk hi z hr
  · intro z
    subst z
    exact hr
theorem rd_not {b i : Nat} (hi : i < 8) (hr : rdB X b (tE X l b) i = true) : ∀ k, k < 8 → k ≠ i → rdB X b (tE X l b) k = false := by
  intro k hk hne
  cases hz : rdB X b (tE X l b) k with
  | false => rfl
  | true => exact absurd (rd_one hk hi hz hr) hne
theorem cl_yard {τ : TT} {pos : Nat} (hl : l ≤ 160) (hX : ∀ i, i < l → ∃ c, c ≤ 255 ∧ X i = nI c) (hp : pos ≤ l) (hr : rdB X (tB X l pos) (tE X l (tB X l pos)) 0 = true) : Cl l X τ pos true (tB X l pos) (tE X l (tB X l pos)) (clr τ) := by
  have hb := tB_le X hp
  have he := tE_le X hb.2
  refine ⟨hb.2, he.2, fun _ => vt_clr, fun h H C e4 T => ?_, fun h H C e4 R => ?_⟩
  · obtain ⟨h1, k2, k3, k4, k5⟩ := c_cl hl H C hp e4
    have H1 := H.fr k2.1
    obtain ⟨h', n1, n2, n3⟩ := c_clear H1 (T.tx k2)
    refine ⟨h', ?_, k2.dc.trans n2.dc, by rw [n2.2.2.2 1 (by omega)]; exact k3, by rw [n2.2.2.2 1 (by omega)]; exact k4, fun _ => n3⟩
    rw [k5, hr, if_neg bI_t, n1, Option.bind_some]
    rfl
  · obtain ⟨h1, k1, k2, k3, k4, k5, k6⟩ := r_cl hl hX hp H C e4 (show 0 < 8 by decide) hr
    have H1 := H.fs k2.1
    obtain ⟨h', n1, n2, n3⟩ := r_anew (τ := τ) H1
    refine ⟨h1, h', k1, ?_, k2.dr.trans n2.dr, by rw [n2.2.2.2 145 (by decide)]; exact k3, by rw [n2.2.2.2 145 (by decide)]; exact k4, fun _ => n3⟩
    unfold F_X5_readsClause
    rw [o145_ck H1, Option.bind_some, o145_gI H1, Option.bind_some, k5, if_pos rfl, o145_gL H1, Option.bind_some, if_neg (not_not_intro ((k6 0 (by decide) 2036429412 rfl).mpr rfl)), n1, Option.bind_some, bz_1, Option.bind_some]
    rfl
theorem cl_calm {τ : TT} {pos : Nat} (hl : l ≤ 160) (hX : ∀ i, i < l → ∃ c, c ≤ 255 ∧ X i = nI c) (hp : pos ≤ l) (V : VT2 τ) (hr : rdB X (tB X l pos) (tE X l (tB X l pos)) 1 = true) : Cl l X τ pos true (tB X l pos) (tE X l (tB X l pos)) (clm τ) := by
  have hb := tB_le X hp
  have he := tE_le X hb.2
  have hz := rd_not (show 1 < 8 by decide) hr
  refine ⟨hb.2, he.2, fun _ => vt_clm V, fun h H C e4 T => ?_, fun h H C e4 R => ?_⟩
  · obtain ⟨h1, k2, k3, k4, k5⟩ := c_cl hl H C hp e4
    have H1 := H.fr k2.1
    obtain ⟨h', n1, n2, n3⟩ := c_clearN H1 (T.tx k2)
    refine ⟨h', ?_, k2.dc.trans n2.dc, by rw [n2.2.2.2 1 (by omega)]; exact k3, by rw [n2.2.2.2 1 (by omega)]; exact k4, fun _ => n3⟩
    rw [k5, hz 0 (by decide) (by decide), hr, if_pos bI_f, if_neg bI_t, n1, Option.bind_some]
    rfl
  · obtain ⟨h1, k1, k2, k3, k4, k5, k6⟩ := r_cl hl hX hp H C e4 (show 1 < 8 by decide) hr
    have H1 := H.fs k2.1
    obtain ⟨h', n1, n2, n3⟩ := r_calm (τ := τ) H1 V.1 (by rw [k2.1.2.2.2 147 (by decide)]; exact R)
    have nk : ∀ k, k < 8 → k ≠ 1 → ∀ K : Int64, K = lN (stW.getD k 0) → ¬ lg_cmp (hL h1 145 14) K = 0 := fun k hk hne K hK z => hne ((k6 k hk K hK).mp z)
    refine ⟨h1, h', k1, ?_, k2.dr.trans n2.dr, by rw [n2.2.2.2 145 (by decide)]; exact k3, by rw [n2.2.2.2 145 (by decide)]; exact k4, fun _ => n3⟩
    unfold F_X5_readsClause
    rw [o145_ck H1, Option.bind_some, o145_gI H1, Option.bind_some, k5, if_pos rfl, o145_gL H1, Option.bind_some, if_pos (nk 0 (by decide) (by decide) 2036429412 rfl), if_pos (nk 2 (by decide) (by decide) 482854658917 rfl), if_pos (nk 3 (by decide) (by decide) 1852143475 rfl), if_neg (not_not_intro ((k6 1 (by decide) 1667329133 rfl).mpr rfl)), n1, Option.bind_some, bz_1, Option.bind_some]
    rfl
theorem c_place {h : AH} {τ : TT} {pos : Nat} (hl : l ≤ 160) (hp : pos ≤ l) (H : Lo h) (C : TextC h l X) (e4 : hI h 1 4 = nI pos) (T : CT h 10 τ) (hP : tP τ < 8) :
    ∃ h', Dc h h' ∧ ((nOK X l pos 7 ∧ nOK X l (tE X l (tB X l pos)) 9 ∧ nOK X l (tE X l (tB X l (tE X l (tB X l pos)))) 9 ∧ F_X1_readPlace h 1 10 = some (1, h') ∧ hI h' 1 3 = nI (tB X l (tE X l (tB X l (tE X l (tB X l pos))))) ∧ hI h' 1 4 = nI (tE X l (tB X l (tE X l (tB X l (tE X l (tB X l pos)))))) ∧ CT h' 10 (adP τ (nVl X l pos) (nVl X l (tE X l (tB X l pos))) (nVl X l (tE X l (tB X l (tE X l (tB X l pos)))))))
      ∨ (nOK X l pos 7 ∧ nOK X l (tE X l (tB X l pos)) 9 ∧ ¬ nOK X l (tE X l (tB X l (tE X l (tB X l pos)))) 9 ∧ F_X1_readPlace h 1 10 = some (0, h') ∧ hI h' 1 3 = nI (tB X l (tE X l (tB X l (tE X l (tB X l pos))))) ∧ hI h' 1 4 = nI (tE X l (tB X l (tE X l (tB X l (tE X l (tB X l pos)))))))
      ∨ (nOK X l pos 7 ∧ ¬ nOK X l (tE X l (tB X l pos)) 9 ∧ F_X1_readPlace h 1 10 = some (0, h') ∧ hI h' 1 3 = nI (tB X l (tE X l (tB X l pos))) ∧ hI h' 1 4 = nI (tE X l (tB X l (tE X l (tB X l pos)))))
      ∨ (¬ nOK X l pos 7 ∧ F_X1_readPlace h 1 10 = some (0, h') ∧ hI h' 1 3 = nI (tB X l pos) ∧ hI h' 1 4 = nI (tE X l (tB X l pos)))) := by
  have hb1 := tB_le X hp
  have he1 := tE_le X hb1.2
  have hb2 := tB_le X he1.2
  have he2 := tE_le X hb2.2
  obtain ⟨h1, a1, a2, a3, a4, a5⟩ := c_num hl H C hp e4 7
  have H1 := H.fr a1.1
  have C1 := C.tx a1 (by decide)
  have z7 : (7 : Int32) = nI 7 := rfl
  have z9 : (9 : Int32) = nI 9 := rfl
  unfold F_X1_readPlace
  rw [o1_ck H, Option.bind_some, z7, z9]
  by_cases o1 : nOK X l pos 7
  · obtain ⟨v1, hv1, ev1⟩ := nOK_v (by decide) o1
    have n1 : ¬ nVl X l pos = -1 := by rw [ev1]; exact nI_m1 (by omega)
    obtain ⟨h2, b1, b2, b3, b4, b5⟩ := c_num hl H1 C1 he1.2 a3 9
    have H2 := H1.fr b1.1
    have C2 := C1.tx b1 (by decide)
    rw [a4 o1, Option.bind_some, if_pos n1]
    by_cases o2 : nOK X l (tE X l (tB X l pos)) 9
    · obtain ⟨v2, hv2, ev2⟩ := nOK_v (by decide) o2
      have n2 : ¬ nVl X l (tE X l (tB X l pos)) = -1 := by rw [ev2]; exact nI_m1 (by omega)
      obtain ⟨h3, c1, c2, c3, c4, c5⟩ := c_num hl H2 C2 he2.2 b3 9
      have H3 := H2.fr c1.1
      rw [b4 o2, Option.bind_some, if_pos n2]
      by_cases o3 : nOK X l (tE X l (tB X l (tE X l (tB X l pos)))) 9
      · obtain ⟨v3, hv3, ev3⟩ := nOK_v (by decide) o3
        have n3 : ¬ nVl X l (tE X l (tB X l (tE X l (tB X l pos)))) = -1 := by rw [ev3]; exact nI_m1 (by omega)
        obtain ⟨h4, d1, d2, d3⟩ := c_addP H3 (((T.tx a1).tx b1).tx c1) hP (nVl X l pos) (nVl X l (tE X l (tB X l pos))) (nVl X l (tE X l (tB X l (tE X l (tB X l pos)))))
        rw [c4 o3, Option.bind_some, if_pos n3, d1, Option.bind_some]
        exact ⟨h4, ((a1.dc.trans b1.dc).trans c1.dc).trans d2.dc, Or.inl ⟨o1, o2, o3, rfl, by rw [d2.2.2.2 1 (by omega)]; exact c2, by rw [d2.2.2.2 1 (by omega)]; exact c3, d3⟩⟩
      · rw [c5 o3, Option.bind_some, if_neg (not_not_intro rfl)]
        exact ⟨h3, (a1.dc.trans b1.dc).trans c1.dc, Or.inr (Or.inl ⟨o1, o2, o3, rfl, c2, c3⟩)⟩
    · rw [b5 o2, Option.bind_some, if_neg (not_not_intro rfl)]
      exact ⟨h2, a1.dc.trans b1.dc, Or.inr (Or.inr (Or.inl ⟨o1, o2, rfl, b2, b3⟩))⟩
  · rw [a5 o1, Option.bind_some, if_neg (not_not_intro rfl)]
    exact ⟨h1, a1.dc, Or.inr (Or.inr (Or.inr ⟨o1, rfl, a2, a3⟩))⟩
theorem o147_l0 {h : AH} (H : Lo h) : ldA h 147 10 0 = some (hI h 147 0) := o147_ld (k := 0) H (by decide)
theorem o147_s0 {h : AH} {v : Int32} (H : Lo h) : stA h 147 10 0 v = some (sI h 147 0 v) := o147_st (k := 0) H (by decide)
theorem o147_l25 {h : AH} (H : Lo h) : ldA h 147 10 25 = some (hI h 147 25) := o147_ld (k := 25) H (by decide)
theorem o147_s25 {h : AH} {v : Int32} (H : Lo h) : stA h 147 10 25 v = some (sI h 147 25 v) := o147_st (k := 25) H (by decide)
theorem r_place {h : AH} {τ : TT} {pos : Nat} (hl : l ≤ 160) (hX : ∀ i, i < l → ∃ c, c ≤ 255 ∧ X i = nI c) (hp : pos ≤ l) (H : Lo h) (C : TextR h l X) (e4 : hI h 145 11 = nI pos) (R : RT0 (hI h 147) τ) (V : VT τ) (hP : tP τ < 8) :
    ∃ h', Dr h h' ∧ ((nOK X l pos 7 → nOK X l (tE X l (tB X l pos)) 9 → nOK X l (tE X l (tB X l (tE X l (tB X l pos)))) 9 → F_X5_readsPlace h 145 = some (1, h') ∧ hI h' 145 12 = nI (tB X l (tE X l (tB X l (tE X l (tB X l pos))))) ∧ hI h' 145 11 = nI (tE X l (tB X l (tE X l (tB X l (tE X l (tB X l pos)))))) ∧ RT0 (hI h' 147) (adP τ (nVl X l pos) (nVl X l (tE X l (tB X l pos))) (nVl X l (tE X l (tB X l (tE X l (tB X l pos)))))))
      ∧ (nOK X l pos 7 → nOK X l (tE X l (tB X l pos)) 9 → ¬ nOK X l (tE X l (tB X l (tE X l (tB X l pos)))) 9 → F_X5_readsPlace h 145 = some (0, h') ∧ hI h' 145 12 = nI (tB X l (tE X l (tB X l (tE X l (tB X l pos))))) ∧ hI h' 145 11 = nI (tE X l (tB X l (tE X l (tB X l (tE X l (tB X l pos)))))))
      ∧ (nOK X l pos 7 → ¬ nOK X l (tE X l (tB X l pos)) 9 → F_X5_readsPlace h 145 = some (0, h') ∧ hI h' 145 12 = nI (tB X l (tE X l (tB X l pos))) ∧ hI h' 145 11 = nI (tE X l (tB X l (tE X l (tB X l pos)))))
      ∧ (¬ nOK X l pos 7 → F_X5_readsPlace h 145 = some (0, h') ∧ hI h' 145 12 = nI (tB X l pos) ∧ hI h' 145 11 = nI (tE X l (tB X l pos)))) := by
  have hb1 := tB_le X hp
  have he1 := tE_le X hb1.2
  have hb2 := tB_le X he1.2
  have he2 := tE_le X hb2.2
  obtain ⟨h1, a1, a2, a3, a4, a5⟩ := r_num hl hX H C hp e4 7
  have H1 := H.fs a1.1
  have C1 := C.dr a1.dr
  have z7 : (7 : Int32) = nI 7 := rfl
  have z9 : (9 : Int32) = nI 9 := rfl
  have q10 : ¬ (1 : Int32) = 0 := by decide
  have n8 : ¬ nI (tP τ) = 8 := fun z => by
    have := (nI_eq (a := tP τ) (b := 8) (by omega) (by omega)).mp z
    omega
  have eP : ∀ {h' : AH}, hI h' 147 = hI h 147 → hI h' 147 0 = nI (tP τ) := fun e => by rw [e]; exact R.1
  unfold F_X5_readsPlace
  rw [o145_ck H, Option.bind_some, o145_R1 H, Option.bind_some, o147_l0 H, Option.bind_some, R.1, if_neg n8, al_1, al_9, al_17, z7, z9]
  by_cases o1 : nOK X l pos 7
  · obtain ⟨a6, a7⟩ := a4 o1
    have H1' : Lo (sI h1 147 (1 + tP τ) (nVl X l pos)) := H1.sA _ _
    have F1 : Fs h1 (sI h1 147 (1 + tP τ) (nVl X l pos)) [147] := (Fs.refl h1 _).sA (by decide)
    have C1' := C1.dr F1.dr
    have e41 : hI (sI h1 147 (1 + tP τ) (nVl X l pos)) 145 11 = nI (tE X l (tB X l pos)) := by rw [sI_ob _ _ _ _ _ (by decide)]; exact a3
    obtain ⟨h2, b1, b2, b3, b4, b5⟩ := r_num hl hX H1' C1' he1.2 e41 9
    have H2 := H1'.fs b1.1
    rw [a6, Option.bind_some, if_pos q10, o145_R1 H1, Option.bind_some, o145_gI H1, Option.bind_some, a7, o147_st H1 (by omega), Option.bind_some]
    have D1 : Dr h (sI h1 147 (1 + tP τ) (nVl X l pos)) := a1.dr.trans F1.dr
    by_cases o2 : nOK X l (tE X l (tB X l pos)) 9
    · obtain ⟨b6, b7⟩ := b4 o2
      have H2' : Lo (sI h2 147 (9 + tP τ) (nVl X l (tE X l (tB X l pos)))) := H2.sA _ _
      have F2 : Fs h2 (sI h2 147 (9 + tP τ) (nVl X l (tE X l (tB X l pos)))) [147] := (Fs.refl h2 _).sA (by decide)
      have D2 : Dr h (sI h2 147 (9 + tP τ) (nVl X l (tE X l (tB X l pos)))) := (D1.trans b1.dr).trans F2.dr
      have C2' := C.dr D2
      have e42 : hI (sI h2 147 (9 + tP τ) (nVl X l (tE X l (tB X l pos)))) 145 11 = nI (tE X l (tB X l (tE X l (tB X l pos)))) := by rw [sI_ob _ _ _ _ _ (by decide)]; exact b3
      obtain ⟨h3, c1, c2, c3, c4, c5⟩ := r_num hl hX H2' C2' he2.2 e42 9
      have H3 := H2'.fs c1.1
      rw [b6, Option.bind_some, if_pos q10, o145_R1 H2, Option.bind_some, o145_gI H2, Option.bind_some, b7, o147_st H2 (by omega), Option.bind_some]
      have D3 : Dr h h3 := D2.trans c1.dr
      by_cases o3 : nOK X l (tE X l (tB X l (tE X l (tB X l pos)))) 9
      · obtain ⟨c6, c7⟩ := c4 o3
        have row : hI h3 147 = upd (upd (hI h 147) (1 + tP τ) (nVl X l pos)) (9 + tP τ) (nVl X l (tE X l (tB X l pos))) := by
          rw [c1.1.2.2.2 147 (by decide), hI_sA, if_pos rfl, b1.1.2.2.2 147 (by decide), hI_sA, if_pos rfl, a1.1.2.2.2 147 (by decide)]
        have H3' : Lo (sI h3 147 (17 + tP τ) (nVl X l (tE X l (tB X l (tE X l (tB X l pos)))))) := H3.sA _ _
        have e0 : hI (sI h3 147 (17 + tP τ) (nVl X l (tE X l (tB X l (tE X l (tB X l pos)))))) 147 0 = nI (tP τ) := by
          rw [sI_ne _ _ _ _ _ (by omega), row, pk_un (by omega), pk_un (by omega)]
          exact R.1
        rw [c6, Option.bind_some, if_pos q10, o145_R1 H3, Option.bind_some, o145_gI H3, Option.bind_some, c7, o147_st H3 (by omega), Option.bind_some, o145_R1 H3', Option.bind_some, o147_l0 H3', Option.bind_some, e0, nI_1, o147_s0 H3', Option.bind_some]
        have F4 : Fs h3 (sI (sI h3 147 (17 + tP τ) (nVl X l (tE X l (tB X l (tE X l (tB X l pos)))))) 147 0 (nI (tP τ + 1))) [147] := ((Fs.refl h3 _).sA (by decide)).sA (by decide)
        refine ⟨_, D3.trans F4.dr, fun _ _ _ => ⟨rfl, ?_, ?_, ?_⟩, fun _ _ z => absurd o3 z, fun _ z => absurd o2 z, fun z => absurd o1 z⟩
        · rw [F4.2.2.2 145 (by decide)]; exact c2
        · rw [F4.2.2.2 145 (by decide)]; exact c3
        · rw [hI_sA, if_pos rfl, hI_sA, if_pos rfl, row]
          exact rt_adP R V hP _ _ _
      · rw [c5 o3, Option.bind_some, if_neg (not_not_intro rfl)]
        exact ⟨h3, D3, fun _ _ z => absurd z o3, fun _ _ _ => ⟨rfl, c2, c3⟩, fun _ z => absurd o2 z, fun z => absurd o1 z⟩
    · rw [b5 o2, Option.bind_some, if_neg (not_not_intro rfl)]
      exact ⟨h2, D1.trans b1.dr, fun _ z => absurd z o2, fun _ z => absurd z o2, fun _ _ => ⟨rfl, b2, b3⟩, fun z => absurd o1 z⟩
  · rw [a5 o1, Option.bind_some, if_neg (not_not_intro rfl)]
    exact ⟨h1, a1.dr, fun z => absurd z o1, fun z => absurd z o1, fun z => absurd z o1, fun _ => ⟨rfl, a2, a3⟩⟩
end CLAUSE
