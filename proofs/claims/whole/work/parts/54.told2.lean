/-! what a clause does to what is told: the reference's row -/
section RT0S
variable {τ : TT} {t : Nat → Int32}
theorem rt_adP (R : RT0 t τ) (V : VT τ) (hp : tP τ < 8) (m w g : Int32) : RT0 (upd (upd (upd (upd t (1 + tP τ) m) (9 + tP τ) w) (17 + tP τ) g) 0 (nI (tP τ + 1))) (adP τ m w g) := by
  obtain ⟨t1, t2, t3, t4, t5⟩ := R
  have v2 := V.2
  have e : ∀ r c, tY (adP τ m w g) r c = up2 (up2 (up2 (tY τ) 1 (tP τ) m) 2 (tP τ) w) 3 (tP τ) g r c := fun r c => rfl
  refine ⟨pk_us, ?_, fun p hpp => ?_, fun k hk => ?_, fun d hd => ?_⟩
  · rw [pk_un (by omega), pk_un (by omega), pk_un (by omega), pk_un (by omega)]; exact t2
  · have hpp : p < tP τ + 1 := hpp
    rw [e 1 p, e 2 p, e 3 p, up2_ne (show ¬ (1 = 3 ∧ p = tP τ) by omega), up2_ne (show ¬ (1 = 2 ∧ p = tP τ) by omega), up2_ne (show ¬ (2 = 3 ∧ p = tP τ) by omega)]
    rw [pk_un (show 1 + p ≠ 0 by omega), pk_un (show 1 + p ≠ 17 + tP τ by omega), pk_un (show 1 + p ≠ 9 + tP τ by omega), pk_un (show 9 + p ≠ 0 by omega), pk_un (show 9 + p ≠ 17 + tP τ by omega), pk_un (show 17 + p ≠ 0 by omega)]
    by_cases hpe : p = tP τ
    · rw [up2_eq' rfl hpe, up2_eq' rfl hpe, up2_eq' rfl hpe, hpe, pk_us, pk_us, pk_us]
      exact ⟨rfl, rfl, rfl⟩
    · rw [pk_un (show 1 + p ≠ 1 + tP τ by omega), pk_un (show 9 + p ≠ 9 + tP τ by omega), pk_un (show 9 + p ≠ 1 + tP τ by omega), pk_un (show 17 + p ≠ 17 + tP τ by omega), pk_un (show 17 + p ≠ 9 + tP τ by omega), pk_un (show 17 + p ≠ 1 + tP τ by omega), up2_ne (by omega), up2_ne (by omega), up2_ne (by omega), up2_ne (by omega), up2_ne (by omega), up2_ne (by omega)]
      exact t3 p (by omega)
  · have hk : k < tH τ := hk
    rw [e 4 k, e 5 k]
    rw [pk_un (by omega), pk_un (by omega), pk_un (by omega), pk_un (by omega), pk_un (by omega), pk_un (by omega), pk_un (by omega), pk_un (by omega), up2_ne (by omega), up2_ne (by omega), up2_ne (by omega), up2_ne (by omega), up2_ne (by omega), up2_ne (by omega)]
    exact t4 k hk
  · rw [e 6 d, pk_un (by omega), pk_un (by omega), pk_un (by omega), pk_un (by omega), up2_ne (by omega), up2_ne (by omega), up2_ne (by omega)]
    exact t5 d hd
theorem rt_adH (R : RT0 t τ) (V : VT τ) (hh : tH τ < 5) (c a : Int32) : RT0 (upd (upd (upd t (26 + tH τ) c) (31 + tH τ) a) 25 (nI (tH τ + 1))) (adH τ c a) := by
  obtain ⟨t1, t2, t3, t4, t5⟩ := R
  have v1 := V.1
  have e : ∀ r q, tY (adH τ c a) r q = up2 (up2 (tY τ) 4 (tH τ) c) 5 (tH τ) a r q := fun r q => rfl
  refine ⟨?_, pk_us, fun p hp => ?_, fun k hk => ?_, fun d hd => ?_⟩
  · rw [pk_un (by omega), pk_un (by omega), pk_un (by omega)]; exact t1
  · have hp : p < tP τ := hp
    rw [e 1 p, e 2 p, e 3 p, pk_un (by omega), pk_un (by omega), pk_un (by omega), pk_un (by omega), pk_un (by omega), pk_un (by omega), pk_un (by omega), pk_un (by omega), pk_un (by omega), up2_ne (by omega), up2_ne (by omega), up2_ne (by omega), up2_ne (by omega), up2_ne (by omega), up2_ne (by omega)]
    exact t3 p hp
  · have hk : k < tH τ + 1 := hk
    rw [e 4 k, e 5 k, up2_ne (show ¬ (4 = 5 ∧ k = tH τ) by omega), pk_un (show 26 + k ≠ 25 by omega), pk_un (show 26 + k ≠ 31 + tH τ by omega), pk_un (show 31 + k ≠ 25 by omega)]
    by_cases hke : k = tH τ
    · rw [up2_eq' rfl hke, up2_eq' rfl hke, hke, pk_us, pk_us]
      exact ⟨rfl, rfl⟩
    · rw [pk_un (show 26 + k ≠ 26 + tH τ by omega), pk_un (show 31 + k ≠ 31 + tH τ by omega), pk_un (show 31 + k ≠ 26 + tH τ by omega), up2_ne (by omega), up2_ne (by omega), up2_ne (by omega)]
      exact t4 k (by omega)
  · rw [e 6 d, pk_un (by omega), pk_un (by omega), pk_un (by omega), up2_ne (by omega), up2_ne (by omega)]
    exact t5 d hd
theorem rt_nw (R : RT0 t τ) (V : VT τ) (d : Nat) (m : Int32) : RT0 (upd t (36 + d) m) (nwT τ d m) := by
  obtain ⟨t1, t2, t3, t4, t5⟩ := R
  have v1 := V.1
  have v2 := V.2
  have e : ∀ r q, tY (nwT τ d m) r q = up2 (tY τ) 6 d m r q := fun r q => rfl
  refine ⟨?_, ?_, fun p hp => ?_, fun k hk => ?_, fun q hq => ?_⟩
  · rw [pk_un (by omega)]; exact t1
  · rw [pk_un (by omega)]; exact t2
  · have hp : p < tP τ := hp
    rw [e 1 p, e 2 p, e 3 p, pk_un (by omega), pk_un (by omega), pk_un (by omega), up2_ne (by omega), up2_ne (by omega), up2_ne (by omega)]
    exact t3 p hp
  · have hk : k < tH τ := hk
    rw [e 4 k, e 5 k, pk_un (by omega), pk_un (by omega), up2_ne (by omega), up2_ne (by omega)]
    exact t4 k hk
  · rw [e 6 q]
    by_cases hqd : q = d
    · rw [up2_eq' rfl hqd, hqd, pk_us]
    · rw [up2_ne (by omega), pk_un (by omega)]
      exact t5 q hq
theorem rt_clm (R : RT0 t τ) (V : VT τ) : RT0 (fun q => if 36 ≤ q ∧ q < 50 then -1 else t q) (clm τ) := by
  obtain ⟨t1, t2, t3, t4, t5⟩ := R
  have v1 := V.1
  have v2 := V.2
  have e : ∀ r, r ≠ 6 → tY (clm τ) r = tY τ r := fun r hr => upR_ne hr
  have g : ∀ q, ¬ (36 ≤ q ∧ q < 50) → (fun q => if 36 ≤ q ∧ q < 50 then (-1 : Int32) else t q) q = t q := fun q hq => if_neg hq
  refine ⟨t1, t2, fun p hp => ?_, fun k hk => ?_, fun d hd => ?_⟩
  · have hp : p < tP τ := hp
    rw [g _ (by omega), g _ (by omega), g _ (by omega), e 1 (by decide), e 2 (by decide), e 3 (by decide)]; exact t3 p hp
  · have hk : k < tH τ := hk
    rw [g _ (by omega), g _ (by omega), e 4 (by decide), e 5 (by decide)]; exact t4 k hk
  · show (if 36 ≤ 36 + d ∧ 36 + d < 50 then (-1 : Int32) else t (36 + d)) = upR (tY τ) 6 (fun _ => -1) 6 d
    rw [if_pos (by omega), upR_eq]
theorem rt_clr (u : Nat → Int32) : RT0 (fun q => if q < 50 then (if 36 ≤ q then -1 else 0) else u q) (clr τ) := by
  refine ⟨rfl, rfl, fun p hp => absurd hp (Nat.not_lt_zero p), fun k hk => absurd hk (Nat.not_lt_zero k), fun d hd => ?_⟩
  show (if 36 + d < 50 then (if 36 ≤ 36 + d then (-1 : Int32) else 0) else u (36 + d)) = upR (tY τ) 6 (fun _ => -1) 6 d
  rw [if_pos (by omega), if_pos (by omega), upR_eq]
end RT0S
theorem blank_loop {β : Type} {kk : AH → Int32 → Option β} {o : Nat} (ho : o < 158 ∧ lyS o = (10, 50)) : ∀ (m i f : Nat) (h : AH), Lo h → i + m = 50 → m < f → L_X5_blank_2 o kk f h (nI i) = kk (sA h o (fun q => if i ≤ q ∧ q < 50 then (if 36 ≤ q then -1 else 0) else hI h o q)) (nI 50) := by
  intro m
  induction m with
  | zero =>
    intro i f h H e hf
    obtain ⟨f, rfl⟩ : ∃ g, f = g + 1 := ⟨f - 1, by omega⟩
    have hi : i = 50 := by omega
    subst hi
    conv => lhs; unfold L_X5_blank_2
    rw [if_pos (by decide), sA_eq (funext fun q => if_neg (by omega))]
  | succ m ih =>
    intro i f h H e hf
    obtain ⟨f, rfl⟩ : ∃ g, f = g + 1 := ⟨f - 1, by omega⟩
    have h50 : ¬ (50 : Int32) ≤ nI i := nI_ge (b := 50) (by omega) (by omega)
    have ev : (if (36 : Int32) ≤ nI i then some (-1 : Int32) else some 0) = some (if 36 ≤ i then -1 else 0) := by
      have h36 : ((36 : Int32) ≤ nI i) ↔ 36 ≤ i := nI_leI (a := 36) (by omega) (by omega)
      by_cases hc : 36 ≤ i
      · rw [if_pos (h36.mpr hc), if_pos hc]
      · rw [if_neg (fun z => hc (h36.mp z)), if_neg hc]
    conv => lhs; unfold L_X5_blank_2
    rw [if_neg h50, ev, Option.bind_some, op_stA H ho.1 ho.2 (by omega) (by omega), Option.bind_some, nI_1, ih (i + 1) f _ (H.sA _ _) (by omega) (by omega), sA_sA]
    congr 2
    funext q
    simp only [hI_sA, if_true, upd]
    by_cases hq : q = i
    · rw [if_neg (show ¬ (i + 1 ≤ q ∧ q < 50) by omega), if_pos hq, if_pos (show i ≤ q ∧ q < 50 by omega), hq]
    · by_cases h2 : i ≤ q ∧ q < 50
      · rw [if_pos (by omega), if_pos h2]
      · rw [if_neg (by omega), if_neg hq, if_neg h2]
theorem blank_ok {h : AH} {o : Nat} (H : Lo h) (ho : o < 158 ∧ lyS o = (10, 50)) : F_X5_blank h o = some (sA h o (fun q => if q < 50 then (if 36 ≤ q then -1 else 0) else hI h o q)) := by
  have := blank_loop (kk := fun h3 _ => some h3) ho 50 0 FU h H (by omega) (by unfold FU; omega)
  rw [nI_0] at this
  unfold F_X5_blank
  rw [this]
  congr 2
  funext q
  by_cases hq : q < 50
  · rw [if_pos hq, if_pos (by omega)]
  · rw [if_neg hq, if_neg (by omega)]
theorem calm_loop {β : Type} {kk : AH → Int32 → Option β} : ∀ (m i f : Nat) (h : AH), Lo h → i + m = 14 → m < f → L_X5_calm_2 145 kk f h (nI i) = kk (sA h 147 (fun q => if 36 + i ≤ q ∧ q < 50 then -1 else hI h 147 q)) (nI 14) := by
  intro m
  induction m with
  | zero =>
    intro i f h H e hf
    obtain ⟨f, rfl⟩ : ∃ g, f = g + 1 := ⟨f - 1, by omega⟩
    have hi : i = 14 := by omega
    subst hi
    conv => lhs; unfold L_X5_calm_2
    rw [if_pos (by decide), sA_eq (funext fun q => if_neg (by omega))]
  | succ m ih =>
    intro i f h H e hf
    obtain ⟨f, rfl⟩ : ∃ g, f = g + 1 := ⟨f - 1, by omega⟩
    have h14 : ¬ (14 : Int32) ≤ nI i := nI_ge (b := 14) (by omega) (by omega)
    conv => lhs; unfold L_X5_calm_2
    rw [if_neg h14, o145_R1 H, Option.bind_some, al_36, o147_st H (by omega), Option.bind_some, nI_1, ih (i + 1) f _ (H.sA _ _) (by omega) (by omega), sA_sA]
    congr 2
    funext q
    simp only [hI_sA, if_true, upd]
    by_cases hq : q = 36 + i
    · rw [if_neg (by omega), if_pos hq, if_pos (by omega)]
    · by_cases h2 : 36 + i ≤ q ∧ q < 50
      · rw [if_pos (by omega), if_pos h2]
      · rw [if_neg (by omega), if_neg hq, if_neg h2]
theorem r_anew {h : AH} {τ : TT} (H : Lo h) : ∃ h', F_X5_anew h 145 = some (1, h') ∧ Fs h h' [147] ∧ RT0 (hI h' 147) (clr τ) := by
  refine ⟨_, ?_, (Fs.refl h _).sA (q := 147) (g := fun q => if q < 50 then (if 36 ≤ q then -1 else 0) else hI h 147 q) (by decide), ?_⟩
  · unfold F_X5_anew
    rw [o145_ck H, Option.bind_some, o145_R1 H, Option.bind_some, blank_ok H ls_147, Option.bind_some]
  · rw [hI_sA, if_pos rfl]
    exact rt_clr _
theorem r_calm {h : AH} {τ : TT} (H : Lo h) (V : VT τ) (R : RT0 (hI h 147) τ) : ∃ h', F_X5_calm h 145 = some (1, h') ∧ Fs h h' [147] ∧ RT0 (hI h' 147) (clm τ) := by
  have L := calm_loop (kk := fun h3 _ => some ((1 : Int32), h3)) 14 0 FU h H (by omega) (by unfold FU; omega)
  rw [nI_0] at L
  refine ⟨_, ?_, (Fs.refl h _).sA (q := 147) (g := fun q => if 36 + 0 ≤ q ∧ q < 50 then -1 else hI h 147 q) (by decide), ?_⟩
  · unfold F_X5_calm
    rw [o145_ck H, Option.bind_some, L]
  · rw [hI_sA, if_pos rfl]
    exact rt_clm R V
/-! frames of reading -/
def Dc (h h' : AH) : Prop := (hN h' = hN h ∧ hS h' = hS h ∧ hR h' = hR h) ∧ (∀ q, q ≠ 1 → (q < 10 ∨ 17 ≤ q) → hI h' q = hI h q) ∧ ∀ j, j ∉ [3, 4] → hI h' 1 j = hI h 1 j
theorem Dc.trans {h h1 h2 : AH} (x : Dc h h1) (y : Dc h1 h2) : Dc h h2 := ⟨⟨y.1.1.trans x.1.1, y.1.2.1.trans x.1.2.1, y.1.2.2.trans x.1.2.2⟩, fun q h1 h2 => (y.2.1 q h1 h2).trans (x.2.1 q h1 h2), fun j hj => (y.2.2 j hj).trans (x.2.2 j hj)⟩
theorem Tx.dc {h h1 : AH} (x : Tx h h1 [3, 4]) : Dc h h1 := ⟨⟨x.1.1, x.1.2.1, x.1.2.2.1⟩, fun q h1 _ => x.1.2.2.2 q (by omega), x.2⟩
theorem Fr.dc {h h1 : AH} (x : Fr h h1 10 17) : Dc h h1 := ⟨⟨x.1, x.2.1, x.2.2.1⟩, fun q _ h2 => x.2.2.2 q h2, fun j _ => by rw [x.2.2.2 1 (by omega)]⟩
theorem Lo.dc {h h1 : AH} (H : Lo h) (x : Dc h h1) : Lo h1 := ⟨x.1.1.trans H.1, fun q hq => by rw [x.1.2.1]; exact H.2.1 q hq, fun q k hq hn => by rw [x.1.2.2]; exact H.2.2 q k hq hn⟩
theorem TextC.dc {h h' : AH} {l : Nat} {X : Nat → Int32} (C : TextC h l X) (T : Dc h h') : TextC h' l X := by
  unfold TextC at C ⊢
  rw [T.2.2 1 (by decide), T.2.1 2 (by decide) (by omega)]
  exact C
theorem CT.tx {h h' : AH} {τ : TT} {a : List Nat} (T : CT h 10 τ) (x : Tx h h' a) : CT h' 10 τ := T.fr x.1 (Or.inr (by omega))
def Dr (h h' : AH) : Prop := Fs h h' [145, 147] ∧ ∀ j, j ∉ [11, 12, 13, 15] → hI h' 145 j = hI h 145 j
theorem Dr.refl (h : AH) : Dr h h := ⟨Fs.refl _ _, fun _ _ => rfl⟩
theorem Dr.trans {h h1 h2 : AH} (x : Dr h h1) (y : Dr h1 h2) : Dr h h2 := ⟨x.1.trans y.1, fun j hj => (y.2 j hj).trans (x.2 j hj)⟩
theorem Rx.dr {h h1 : AH} (x : Rx h h1 [11, 12, 13, 15]) : Dr h h1 := ⟨x.1.wide (by decide), x.2⟩
theorem Fs.dr {h h1 : AH} (x : Fs h h1 [147]) : Dr h h1 := ⟨x.wide (by decide), fun j _ => by rw [x.2.2.2 145 (by decide)]⟩
theorem TextR.dr {h h' : AH} {l : Nat} {X : Nat → Int32} (C : TextR h l X) (T : Dr h h') : TextR h' l X := by
  unfold TextR at C ⊢
  rw [T.2 8 (by decide), T.1.2.2.2 152 (by decide)]
  exact C
theorem lgc {x y : Int64} : lg_cmp x y = 0 ↔ x = y := by
  unfold lg_cmp
  constructor
  · intro h
    split at h
    · exact absurd h (by decide)
    · split at h
      next e => exact e
      next => exact absurd h (by decide)
  · intro e
    subst e
    rw [if_neg (by rw [gt_iff_lt, Int64.lt_iff_toInt_lt]; omega), if_pos rfl]
