/-! the reference's step -/
def Rx (h h' : AH) (a : List Nat) : Prop := Fs h h' [145] ∧ ∀ j, j ∉ a → hI h' 145 j = hI h 145 j
theorem Rx.refl (h : AH) (a : List Nat) : Rx h h a := ⟨Fs.refl _ _, fun _ _ => rfl⟩
theorem Rx.trans {h h1 h2 : AH} {a : List Nat} (x : Rx h h1 a) (y : Rx h1 h2 a) : Rx h h2 a := ⟨x.1.trans y.1, fun j hj => (y.2 j hj).trans (x.2 j hj)⟩
theorem Rx.put {h h1 : AH} {a : List Nat} (x : Rx h h1 a) {j : Nat} (hj : j ∈ a) (v : Int32) : Rx h (sI h1 145 j v) a := ⟨x.1.sA (by decide), fun k hk => (sI_ne _ _ _ _ _ (fun e : k = j => hk (by rw [e]; exact hj))).trans (x.2 k hk)⟩
theorem Rx.putL {h h1 : AH} {a : List Nat} (x : Rx h h1 a) (j : Nat) (v : Int64) : Rx h (sL h1 145 j v) a := x
theorem Rx.wide {h h1 : AH} {a b : List Nat} (x : Rx h h1 a) (hs : ∀ q, q ∈ a → q ∈ b) : Rx h h1 b := ⟨x.1, fun j hj => x.2 j (fun z => hj (hs j z))⟩
theorem TextR.rx {h h' : AH} {l : Nat} {X : Nat → Int32} {a : List Nat} (C : TextR h l X) (T : Rx h h' a) (h1 : 8 ∉ a) : TextR h' l X := by
  unfold TextR at C ⊢
  rw [T.2 8 h1, T.1.2.2.2 152 (by decide)]
  exact C
theorem hL_at (h : AH) (o j : Nat) (v : Int64) : hL (sL h o j v) o j = v := by
  show va_up (hL h) o (va_up (hL h o) j v) o j = v
  rw [ups, ups]
section TOKR
variable {l : Nat} {X : Nat → Int32}
def wdP (X : Nat → Int32) (b : Nat) : Nat → Int64
  | 0 => 0
  | j + 1 => if 7 ≤ j then -1 else wdP X b j * 256 + (X (b + j)).toInt64
def vlP (X : Nat → Int32) (b : Nat) : Nat → Int32
  | 0 => 0
  | j + 1 => if 2 ≤ j then vlP X b j else 10 * vlP X b j + X (b + j) - 48
theorem r_here {h : AH} (hl : l ≤ 160) (H : Lo h) (C : TextR h l X) {i : Nat} (hi : i ≤ l) (e : hI h 145 11 = nI i) : F_X5_here h 145 = some (if i < l then X i else -1) := by
  unfold F_X5_here
  rw [o145_ck H, Option.bind_some, o145_gI H, Option.bind_some, o145_gI H, Option.bind_some, e, C.1]
  by_cases hil : i < l
  · rw [if_neg (nI_ge hil (by omega)), o145_R7 H, Option.bind_some, Option.bind_some, o152_ld H (by omega), Option.bind_some, C.2 i hil, if_pos hil]
  · rw [if_pos (nI_le (by omega) (by omega)), if_neg hil]
theorem r_sk_loop {β : Type} {k : AH → Option β} (hl : l ≤ 160) : ∀ (m i f : Nat) (h : AH), Lo h → TextR h l X → hI h 145 11 = nI i → i + m = l → m < f → ∃ h', L_X5_step_0 145 k f h = k h' ∧ Rx h h' [11] ∧ hI h' 145 11 = nI (skP X m i) := by
  intro m
  induction m with
  | zero =>
    intro i f h H C e3 e hf
    obtain ⟨f, rfl⟩ : ∃ g, f = g + 1 := ⟨f - 1, by omega⟩
    refine ⟨h, ?_, Rx.refl _ _, e3⟩
    conv => lhs; unfold L_X5_step_0
    rw [r_here hl H C (by omega) e3, if_neg (by omega), Option.bind_some, if_pos (by decide)]
  | succ m ih =>
    intro i f h H C e3 e hf
    obtain ⟨f, rfl⟩ : ∃ g, f = g + 1 := ⟨f - 1, by omega⟩
    have step : L_X5_step_0 145 k (f + 1) h = if ¬ X i = 32 then k h else L_X5_step_0 145 k f (sI h 145 11 (nI (i + 1))) := by
      conv => lhs; unfold L_X5_step_0
      rw [r_here hl H C (by omega) e3, if_pos (by omega), Option.bind_some, o145_gI H, Option.bind_some, e3, nI_1, o145_pI H, Option.bind_some]
    rw [step]
    unfold skP
    by_cases h32 : X i = 32
    · rw [if_neg (not_not_intro h32), if_pos h32]
      have T1 : Rx h (sI h 145 11 (nI (i + 1))) [11] := (Rx.refl h _).put (by decide) _
      obtain ⟨h', n1, n2, n3⟩ := ih (i + 1) f _ (H.sA _ _) (C.rx T1 (by decide)) (sI_at _ _ _ _) (by omega) (by omega)
      exact ⟨h', n1, T1.trans n2, n3⟩
    · rw [if_pos h32, if_neg h32]
      exact ⟨h, rfl, Rx.refl _ _, e3⟩
theorem smB_m1 : smB (-1) = false := by decide
theorem dgB_m1 : dgB (-1) = false := by decide
theorem sub_b (b j : Nat) : nI (b + j) - nI b = nI j := by
  rw [pk_sub (by omega)]
  congr 1
  omega
theorem r_sm_loop {β : Type} {k : AH → Option β} {x1 : Int32} (hl : l ≤ 160) {b : Nat} : ∀ (m j f : Nat) (h : AH), Lo h → TextR h l X → hI h 145 13 = 1 → hI h 145 12 = nI b → hI h 145 11 = nI (b + j) → hL h 145 14 = wdP X b j → (b + j) + m = l → m < f → ∃ h', L_X5_step_122 145 x1 k f h = k h' ∧ Rx h h' [11] ∧ hI h' 145 11 = nI (rnP smB X m (b + j)) ∧ hL h' 145 14 = wdP X b (rnP smB X m (b + j) - b) := by
  intro m
  induction m with
  | zero =>
    intro j f h H C e13 e12 e11 eL e hf
    obtain ⟨f, rfl⟩ : ∃ g, f = g + 1 := ⟨f - 1, by omega⟩
    refine ⟨h, ?_, Rx.refl _ _, e11, ?_⟩
    · conv => lhs; unfold L_X5_step_122
      rw [o145_gI H, Option.bind_some, e13, if_neg (by decide), r_here hl H C (by omega) e11, if_neg (by omega), Option.bind_some, in_sm, smB_m1, Option.bind_some, if_pos bI_f]
    · rw [eL]
      show wdP X b j = wdP X b (b + j - b)
      congr 1
      omega
  | succ m ih =>
    intro j f h H C e13 e12 e11 eL e hf
    obtain ⟨f, rfl⟩ : ∃ g, f = g + 1 := ⟨f - 1, by omega⟩
    have hw : wdP X b (j + 1) = if 7 ≤ j then -1 else wdP X b j * 256 + (X (b + j)).toInt64 := rfl
    have H1 : Lo (sL h 145 14 (wdP X b (j + 1))) := H
    have e11' : hI (sL h 145 14 (wdP X b (j + 1))) 145 11 = nI (b + j) := e11
    have step : L_X5_step_122 145 x1 k (f + 1) h = if bI (smB (X (b + j))) = 0 then k h else L_X5_step_122 145 x1 k f (sI (sL h 145 14 (wdP X b (j + 1))) 145 11 (nI (b + j + 1))) := by
      conv => lhs; unfold L_X5_step_122
      rw [o145_gI H, Option.bind_some, e13, if_neg (by decide), r_here hl H C (by omega) e11, if_pos (by omega), Option.bind_some, in_sm, Option.bind_some, o145_gI H, Option.bind_some, o145_gI H, Option.bind_some, e11, e12, sub_b, o145_gL H, Option.bind_some, eL, Option.bind_some]
      have h7 : ((7 : Int32) ≤ nI j) ↔ 7 ≤ j := nI_leI (a := 7) (by omega) (by omega)
      have eq : (if (7 : Int32) ≤ nI j then some (-1 : Int64) else some (wdP X b j * 256 + (X (b + j)).toInt64)) = some (wdP X b (j + 1)) := by
        rw [hw]
        by_cases hj : 7 ≤ j
        · rw [if_pos (h7.mpr hj), if_pos hj]
        · rw [if_neg (fun z => hj (h7.mp z)), if_neg hj]
      rw [eq, Option.bind_some, o145_pL H, Option.bind_some, o145_gI H1, Option.bind_some, e11', nI_1, o145_pI H1, Option.bind_some]
    rw [step]
    unfold rnP
    cases hc : smB (X (b + j)) with
    | true =>
      rw [if_neg bI_t, if_pos tt]
      have T1 : Rx h (sI (sL h 145 14 (wdP X b (j + 1))) 145 11 (nI (b + j + 1))) [11] := ((Rx.refl h _).putL 14 _).put (by decide) _
      obtain ⟨h', n1, n2, n3, n4⟩ := ih (j + 1) f _ (H1.sA _ _) (C.rx T1 (by decide)) ((T1.2 13 (by decide)).trans e13) ((T1.2 12 (by decide)).trans e12) (sI_at _ _ _ _) (show hL (sL h 145 14 (wdP X b (j + 1))) 145 14 = wdP X b (j + 1) from hL_at _ _ _ _) (by omega) (by omega)
      exact ⟨h', n1, T1.trans n2, n3, n4⟩
    | false =>
      rw [if_pos bI_f, if_neg ff]
      refine ⟨h, rfl, Rx.refl _ _, e11, ?_⟩
      rw [eL]
      congr 1
      omega
theorem r_dg_loop {β : Type} {k : AH → Option β} {x1 : Int32} (hl : l ≤ 160) {b : Nat} : ∀ (m j f : Nat) (h : AH), Lo h → TextR h l X → hI h 145 13 = 2 → hI h 145 12 = nI b → hI h 145 11 = nI (b + j) → hI h 145 15 = vlP X b j → (b + j) + m = l → m < f → ∃ h', L_X5_step_198 145 x1 k f h = k h' ∧ Rx h h' [11, 15] ∧ hI h' 145 11 = nI (rnP dgB X m (b + j)) ∧ hI h' 145 15 = vlP X b (rnP dgB X m (b + j) - b) ∧ hL h' = hL h := by
  intro m
  induction m with
  | zero =>
    intro j f h H C e13 e12 e11 eL e hf
    obtain ⟨f, rfl⟩ : ∃ g, f = g + 1 := ⟨f - 1, by omega⟩
    refine ⟨h, ?_, Rx.refl _ _, e11, ?_, rfl⟩
    · conv => lhs; unfold L_X5_step_198
      rw [o145_gI H, Option.bind_some, e13, if_neg (by decide), r_here hl H C (by omega) e11, if_neg (by omega), Option.bind_some, in_dg, dgB_m1, Option.bind_some, if_pos bI_f]
    · rw [eL]
      show vlP X b j = vlP X b (b + j - b)
      congr 1
      omega
  | succ m ih =>
    intro j f h H C e13 e12 e11 eL e hf
    obtain ⟨f, rfl⟩ : ∃ g, f = g + 1 := ⟨f - 1, by omega⟩
    have hw : vlP X b (j + 1) = if 2 ≤ j then vlP X b j else 10 * vlP X b j + X (b + j) - 48 := rfl
    have H1 : Lo (sI h 145 15 (vlP X b (j + 1))) := H.sA _ _
    have e11' : hI (sI h 145 15 (vlP X b (j + 1))) 145 11 = nI (b + j) := (sI_ne _ _ _ _ _ (by decide)).trans e11
    have step : L_X5_step_198 145 x1 k (f + 1) h = if bI (dgB (X (b + j))) = 0 then k h else L_X5_step_198 145 x1 k f (sI (sI h 145 15 (vlP X b (j + 1))) 145 11 (nI (b + j + 1))) := by
      conv => lhs; unfold L_X5_step_198
      have h2 : ((2 : Int32) ≤ nI j) ↔ 2 ≤ j := nI_leI (a := 2) (by omega) (by omega)
      have eq : (if (2 : Int32) ≤ nI j then some (vlP X b j) else some (10 * vlP X b j + X (b + j) - 48)) = some (vlP X b (j + 1)) := by
        rw [hw]
        by_cases hj : 2 ≤ j
        · rw [if_pos (h2.mpr hj), if_pos hj]
        · rw [if_neg (fun z => hj (h2.mp z)), if_neg hj]
      have hne : ¬ ¬ (2 : Int32) = 2 := by decide
      simp only [o145_gI H, Option.bind_some, e13, not_true_eq_false, if_false, r_here hl H C (show b + j ≤ l by omega) e11, if_pos (show b + j < l by omega), in_dg, e11, e12, sub_b, eL, eq, o145_pI H, o145_gI H1, e11', nI_1, o145_pI H1]
    rw [step]
    unfold rnP
    cases hc : dgB (X (b + j)) with
    | true =>
      rw [if_neg bI_t, if_pos tt]
      have T1 : Rx h (sI (sI h 145 15 (vlP X b (j + 1))) 145 11 (nI (b + j + 1))) [11, 15] := ((Rx.refl h _).put (by decide) _).put (by decide) _
      obtain ⟨h', n1, n2, n3, n4, n5⟩ := ih (j + 1) f _ (H1.sA _ _) (C.rx T1 (by decide)) ((T1.2 13 (by decide)).trans e13) ((T1.2 12 (by decide)).trans e12) (sI_at _ _ _ _) ((sI_ne _ _ _ _ _ (by decide)).trans (sI_at _ _ _ _)) (by omega) (by omega)
      exact ⟨h', n1, T1.trans n2, n3, n4, n5⟩
    | false =>
      rw [if_pos bI_f, if_neg ff]
      refine ⟨h, rfl, Rx.refl _ _, e11, ?_, rfl⟩
      rw [eL]
      congr 1
      omega
/-- what kind of token -/
def tkP (X : Nat → Int32) (l b : Nat) : Int32 := if b < l then (if smB (X b) then 1 else if dgB (X b) then (if 2 < tE X l b - b then 4 else 2) else if X b = 59 then 3 else 4) else 0
theorem sm_dg {v : Int32} (h : smB v = true) : dgB v = false := by
  unfold smB at h
  unfold dgB
  have h := of_decide_eq_true h
  refine decide_eq_false (fun z => ?_)
  have a1 := (nltI _ _).mp h.1
  have a2 := (nltI _ _).mp z.2
  rw [Int32.le_iff_toInt_le] at a1 a2
  have e1 : (97 : Int32).toInt = 97 := by decide
  have e2 : (57 : Int32).toInt = 57 := by decide
  omega
theorem r_step {h : AH} (hl : l ≤ 160) (hX : ∀ i, i < l → ∃ c, c ≤ 255 ∧ X i = nI c) (H : Lo h) (C : TextR h l X) {pos : Nat} (hp : pos ≤ l) (e4 : hI h 145 11 = nI pos) : ∃ h', F_X5_step h 145 = some h' ∧ Rx h h' [11, 12, 13, 15] ∧ hI h' 145 12 = nI (tB X l pos) ∧ hI h' 145 11 = nI (tE X l (tB X l pos)) ∧ hI h' 145 13 = tkP X l (tB X l pos) ∧ (tkP X l (tB X l pos) = 1 → hL h' 145 14 = wdP X (tB X l pos) (tE X l (tB X l pos) - tB X l pos)) ∧ (tkP X l (tB X l pos) = 2 → hI h' 145 15 = vlP X (tB X l pos) (tE X l (tB X l pos) - tB X l pos)) := by
  have hb := tB_le X hp
  have main : ∀ (k : AH → Option AH), ∃ h2, L_X5_step_0 145 k FU h = k h2 ∧ Rx h h2 [11] ∧ hI h2 145 11 = nI (tB X l pos) := fun k => r_sk_loop hl (l - pos) pos FU h H C e4 (by omega) (by unfold FU; omega)
  unfold F_X5_step
  rw [o145_ck H, Option.bind_some]
  obtain ⟨h2, k1, k2, k3⟩ := main _
  rw [k1]
  generalize tB X l pos = b at hb k3
  have T2 : Rx h h2 [11, 12, 13, 15] := k2.wide (by decide)
  have H2 : Lo h2 := H.fs T2.1
  have T3 : Rx h (sI h2 145 12 (nI b)) [11, 12, 13, 15] := T2.put (by decide) _
  have H3 : Lo (sI h2 145 12 (nI b)) := H2.sA _ _
  have H4 : Lo (sL (sI h2 145 12 (nI b)) 145 14 0) := H3
  have T5 : Rx h (sI (sL (sI h2 145 12 (nI b)) 145 14 0) 145 15 0) [11, 12, 13, 15] := (T3.putL 14 0).put (by decide) _
  have H5 : Lo (sI (sL (sI h2 145 12 (nI b)) 145 14 0) 145 15 0) := H4.sA _ _
  have L5 : hL (sI (sL (sI h2 145 12 (nI b)) 145 14 0) 145 15 0) 145 14 = 0 := (show hL (sL (sI h2 145 12 (nI b)) 145 14 0) 145 14 = 0 from hL_at _ _ _ _)
  have a5 : hI (sI (sL (sI h2 145 12 (nI b)) 145 14 0) 145 15 0) 145 11 = nI b := (sI_ne _ _ _ _ _ (by decide)).trans ((sI_ne h2 145 12 11 (nI b) (by decide)).trans k3)
  have b5 : hI (sI (sL (sI h2 145 12 (nI b)) 145 14 0) 145 15 0) 145 12 = nI b := (sI_ne _ _ _ _ _ (by decide)).trans (sI_at h2 145 12 (nI b))
  have v5 : hI (sI (sL (sI h2 145 12 (nI b)) 145 14 0) 145 15 0) 145 15 = 0 := sI_at _ _ _ _
  rw [o145_gI H2, Option.bind_some, k3, o145_pI H2, Option.bind_some, o145_pL H3, Option.bind_some, o145_pI H4, Option.bind_some]
  generalize sI (sL (sI h2 145 12 (nI b)) 145 14 0) 145 15 0 = h5 at T5 H5 L5 a5 b5 v5
  have C5 := C.rx T5 (by decide)
  rw [r_here hl H5 C5 hb.2 a5, Option.bind_some]
  by_cases hbl : b < l
  · rw [if_pos hbl]
    obtain ⟨c, hc, ec⟩ := hX b hbl
    have hge : (0 : Int32) ≤ X b := by rw [ec]; exact nI_pos' (by omega)
    rw [if_pos hge, in_sm, Option.bind_some, in_dg, Option.bind_some]
    unfold tkP
    rw [if_pos hbl]
    have fin : ∀ (h19 : AH) (t : Int32), Lo h19 → hI h19 145 13 = t → (t = 2 → ∃ e, hI h19 145 11 = nI e ∧ hI h19 145 12 = nI b ∧ b ≤ e ∧ e ≤ l) → (Option.bind (gtI h19 145 5 13) fun v20 => if ¬ v20 = 2 then (Option.bind (gtI h19 145 5 13) fun v21 => Option.bind (ptI h19 145 5 13 v21) fun h22 => some h22) else (Option.bind (gtI h19 145 5 11) fun v23 => Option.bind (gtI h19 145 5 12) fun v24 => if (v23 - v24) ≤ 2 then (Option.bind (gtI h19 145 5 13) fun v25 => Option.bind (ptI h19 145 5 13 v25) fun h26 => some h26) else (Option.bind (ptI h19 145 5 13 4) fun h27 => some h27))) = some (sI h19 145 13 (if t = 2 then (if hI h19 145 11 - hI h19 145 12 ≤ 2 then 2 else 4) else t)) := by
      intro h19 t H19 et he
      rw [o145_gI H19, Option.bind_some, et]
      by_cases h2 : t = 2
      · subst h2
        rw [if_neg (not_not_intro rfl), if_pos rfl, o145_gI H19, Option.bind_some, o145_gI H19, Option.bind_some, Option.bind_some, o145_pI H19, Option.bind_some, o145_pI H19, Option.bind_some]
        split <;> rfl
      · rw [if_pos h2, if_neg h2, Option.bind_some, o145_pI H19, Option.bind_some]
    cases hs : smB (X b) with
    | true =>
      have hd := sm_dg hs
      rw [if_neg bI_t, Option.bind_some, o145_pI H5, Option.bind_some]
      have T6 : Rx h (sI h5 145 13 1) [11, 12, 13, 15] := T5.put (by decide) _
      have H6 : Lo (sI h5 145 13 1) := H5.sA _ _
      have l12 : (1 : Int32) ≤ 2 := by decide
      rw [o145_gI H6, Option.bind_some, sI_at, if_pos l12, Option.bind_some]
      have hrn : rnP smB X (l - b) b = rnP smB X (l - (b + 1)) (b + 1) := by
        obtain ⟨m, hm⟩ : ∃ m, l - b = m + 1 := ⟨l - b - 1, by omega⟩
        have hm2 : l - (b + 1) = m := by omega
        rw [hm, hm2]
        show (if smB (X b) = true then rnP smB X m (b + 1) else b) = _
        rw [if_pos hs]
      have M := fun (k : AH → Option AH) => r_sm_loop (X := X) (l := l) (k := k) (x1 := X b) hl (b := b) (l - b) 0 FU (sI h5 145 13 1) H6 (C.rx T6 (by decide)) (sI_at _ _ _ _) ((sI_ne _ _ _ _ _ (by decide)).trans b5) ((sI_ne _ _ _ _ _ (by decide)).trans a5) L5 (by omega) (by unfold FU; omega)
      obtain ⟨h7, n1, n2, n3, n4⟩ := M _
      rw [n1]
      have H7 := H6.fs n2.1
      have e13 : hI h7 145 13 = 1 := (n2.2 13 (by decide)).trans (sI_at _ _ _ _)
      obtain ⟨f1, ef⟩ : ∃ f, FU = f + 1 := ⟨999, rfl⟩
      have hne : ¬ (1 : Int32) = 2 := by decide
      have sk2 : ∀ (k : AH → Option AH), L_X5_step_198 145 (X b) k FU h7 = k h7 := fun k => by
        rw [ef]
        conv => lhs; unfold L_X5_step_198
        rw [o145_gI H7, Option.bind_some, e13, if_pos hne]
      rw [sk2, fin h7 1 H7 e13 (fun z => absurd z hne), if_neg hne]
      have et : tE X l b = rnP smB X (l - b) b := by unfold tE; rw [if_pos hbl, if_pos hs, hrn]
      have T7 : Rx h (sI h7 145 13 1) [11, 12, 13, 15] := (T6.trans (n2.wide (by decide))).put (by decide) _
      rw [if_pos tt]
      refine ⟨_, rfl, T7, (sI_ne _ _ _ _ _ (by decide)).trans ((n2.2 12 (by decide)).trans ((sI_ne _ _ _ _ _ (by decide)).trans b5)), ?_, sI_at _ _ _ _, fun _ => ?_, fun z => absurd z hne⟩
      · rw [sI_ne _ _ _ _ _ (by decide), n3, et]
        rfl
      · show hL h7 145 14 = _
        rw [n4, et]
        rfl
    | false =>
      rw [if_pos bI_f]
      cases hd : dgB (X b) with
      | true =>
        rw [if_neg bI_t, Option.bind_some, o145_pI H5, Option.bind_some]
        have T6 : Rx h (sI h5 145 13 2) [11, 12, 13, 15] := T5.put (by decide) _
        have H6 : Lo (sI h5 145 13 2) := H5.sA _ _
        have l12 : (2 : Int32) ≤ 2 := by decide
        rw [o145_gI H6, Option.bind_some, sI_at, if_pos l12, Option.bind_some]
        have hrn : rnP dgB X (l - b) b = rnP dgB X (l - (b + 1)) (b + 1) := by
          obtain ⟨m, hm⟩ : ∃ m, l - b = m + 1 := ⟨l - b - 1, by omega⟩
          have hm2 : l - (b + 1) = m := by omega
          rw [hm, hm2]
          show (if dgB (X b) = true then rnP dgB X m (b + 1) else b) = _
          rw [if_pos hd]
        obtain ⟨f1, ef⟩ : ∃ f, FU = f + 1 := ⟨999, rfl⟩
        have hne : ¬ (2 : Int32) = 1 := by decide
        have sk : ∀ (k : AH → Option AH), L_X5_step_122 145 (X b) k FU (sI h5 145 13 2) = k (sI h5 145 13 2) := fun k => by
          rw [ef]
          conv => lhs; unfold L_X5_step_122
          rw [o145_gI H6, Option.bind_some, sI_at, if_pos hne]
        rw [sk]
        have M := fun (k : AH → Option AH) => r_dg_loop (X := X) (l := l) (k := k) (x1 := X b) hl (b := b) (l - b) 0 FU (sI h5 145 13 2) H6 (C.rx T6 (by decide)) (sI_at _ _ _ _) ((sI_ne _ _ _ _ _ (by decide)).trans b5) ((sI_ne _ _ _ _ _ (by decide)).trans a5) ((sI_ne _ _ _ _ _ (by decide)).trans v5) (by omega) (by unfold FU; omega)
        obtain ⟨h7, n1, n2, n3, n4, n5⟩ := M _
        rw [n1]
        have H7 := H6.fs n2.1
        have e13 : hI h7 145 13 = 2 := (n2.2 13 (by decide)).trans (sI_at _ _ _ _)
        have e12 : hI h7 145 12 = nI b := (n2.2 12 (by decide)).trans ((sI_ne _ _ _ _ _ (by decide)).trans b5)
        have et : tE X l b = rnP dgB X (l - b) b := by unfold tE; rw [if_pos hbl, if_neg (by rw [hs]; decide), if_pos hd, hrn]
        have hte := tE_le X hb.2
        have e11 : hI h7 145 11 = nI (tE X l b) := by rw [n3, et]; rfl
        rw [fin h7 2 H7 e13 (fun _ => ⟨_, e11, e12, hte.1, hte.2⟩), if_pos rfl, e11, e12, pk_sub hte.1]
        have T7 : ∀ v, Rx h (sI h7 145 13 v) [11, 12, 13, 15] := fun v => (T6.trans (n2.wide (by decide))).put (by decide) _
        have e3 : (if nI (tE X l b - b) ≤ 2 then (2 : Int32) else 4) = if 2 < tE X l b - b then 4 else 2 := by
          by_cases h2 : 2 < tE X l b - b
          · rw [if_pos h2, if_neg (show ¬ nI (tE X l b - b) ≤ (2 : Int32) from nI_ge (a := 2) h2 (by omega))]
          · rw [if_neg h2, if_pos (show nI (tE X l b - b) ≤ (2 : Int32) from nI_le (b := 2) (by omega) (by omega))]
        rw [e3, if_neg ff, if_pos tt]
        refine ⟨_, rfl, T7 _, (sI_ne _ _ _ _ _ (by decide)).trans e12, (sI_ne _ _ _ _ _ (by decide)).trans e11, sI_at _ _ _ _, fun z => ?_, fun _ => ?_⟩
        · exfalso
          revert z
          split <;> decide
        · rw [sI_ne _ _ _ _ _ (by decide), n4, et]
          rfl
      | false =>
        rw [if_pos bI_f]
        have e5 : (if ¬ X b = 59 then some (4 : Int32) else some 3) = some (if X b = 59 then 3 else 4) := by
          by_cases h59 : X b = 59
          · rw [if_neg (not_not_intro h59), if_pos h59]
          · rw [if_pos h59, if_neg h59]
        rw [e5, Option.bind_some, o145_pI H5, Option.bind_some]
        generalize ht : (if X b = 59 then (3 : Int32) else 4) = t
        have ht34 : t = 3 ∨ t = 4 := by
          rw [← ht]
          split
          · exact Or.inl rfl
          · exact Or.inr rfl
        have n2 : ¬ t ≤ 2 := by rcases ht34 with e | e <;> subst e <;> decide
        have n1 : ¬ t = 1 := by rcases ht34 with e | e <;> subst e <;> decide
        have n22 : ¬ t = 2 := by rcases ht34 with e | e <;> subst e <;> decide
        have T6 : Rx h (sI h5 145 13 t) [11, 12, 13, 15] := T5.put (by decide) _
        have H6 : Lo (sI h5 145 13 t) := H5.sA _ _
        have e116 : hI (sI h5 145 13 t) 145 11 = nI b := (sI_ne _ _ _ _ _ (by decide)).trans a5
        have H7 : Lo (sI (sI h5 145 13 t) 145 11 (nI (b + 1))) := H6.sA _ _
        have T7 : Rx h (sI (sI h5 145 13 t) 145 11 (nI (b + 1))) [11, 12, 13, 15] := T6.put (by decide) _
        have e13 : hI (sI (sI h5 145 13 t) 145 11 (nI (b + 1))) 145 13 = t := (sI_ne _ _ _ _ _ (by decide)).trans (sI_at _ _ _ _)
        rw [o145_gI H6, Option.bind_some, sI_at, if_neg n2, o145_gI H6, Option.bind_some, e116, nI_1, o145_pI H6, Option.bind_some, Option.bind_some]
        obtain ⟨f1, ef⟩ : ∃ f, FU = f + 1 := ⟨999, rfl⟩
        have sk : ∀ (k : AH → Option AH), L_X5_step_122 145 (X b) k FU (sI (sI h5 145 13 t) 145 11 (nI (b + 1))) = k (sI (sI h5 145 13 t) 145 11 (nI (b + 1))) := fun k => by
          rw [ef]
          conv => lhs; unfold L_X5_step_122
          rw [o145_gI H7, Option.bind_some, e13, if_pos n1]
        have sk2 : ∀ (k : AH → Option AH), L_X5_step_198 145 (X b) k FU (sI (sI h5 145 13 t) 145 11 (nI (b + 1))) = k (sI (sI h5 145 13 t) 145 11 (nI (b + 1))) := fun k => by
          rw [ef]
          conv => lhs; unfold L_X5_step_198
          rw [o145_gI H7, Option.bind_some, e13, if_pos n22]
        rw [sk, sk2, fin _ t H7 e13 (fun z => absurd z n22), if_neg n22, if_neg ff, if_neg ff]
        have et : tE X l b = b + 1 := by unfold tE; rw [if_pos hbl, if_neg (by rw [hs]; decide), if_neg (by rw [hd]; decide)]
        refine ⟨_, rfl, T7.put (by decide) _, ?_, ?_, sI_at _ _ _ _, fun z => absurd z n1, fun z => absurd z n22⟩
        · rw [sI_ne _ _ _ _ _ (by decide), sI_ne _ _ _ _ _ (by decide), sI_ne _ _ _ _ _ (by decide)]
          exact b5
        · rw [sI_ne _ _ _ _ _ (by decide), sI_at, et]
  · rw [if_neg hbl]
    have hge : ¬ (0 : Int32) ≤ -1 := by decide
    rw [if_neg hge, Option.bind_some, o145_pI H5, Option.bind_some]
    have T6 : Rx h (sI h5 145 13 0) [11, 12, 13, 15] := T5.put (by decide) _
    have H6 : Lo (sI h5 145 13 0) := H5.sA _ _
    have l02 : (0 : Int32) ≤ 2 := by decide
    have n1 : ¬ (0 : Int32) = 1 := by decide
    have n2 : ¬ (0 : Int32) = 2 := by decide
    rw [o145_gI H6, Option.bind_some, sI_at, if_pos l02, Option.bind_some]
    obtain ⟨f1, ef⟩ : ∃ f, FU = f + 1 := ⟨999, rfl⟩
    have sk : ∀ (k : AH → Option AH), L_X5_step_122 145 (-1) k FU (sI h5 145 13 0) = k (sI h5 145 13 0) := fun k => by
      rw [ef]
      conv => lhs; unfold L_X5_step_122
      rw [o145_gI H6, Option.bind_some, sI_at, if_pos n1]
    have sk2 : ∀ (k : AH → Option AH), L_X5_step_198 145 (-1) k FU (sI h5 145 13 0) = k (sI h5 145 13 0) := fun k => by
      rw [ef]
      conv => lhs; unfold L_X5_step_198
      rw [o145_gI H6, Option.bind_some, sI_at, if_pos n2]
    rw [sk, sk2, o145_gI H6, Option.bind_some, sI_at, if_pos n2, Option.bind_some, o145_pI H6, Option.bind_some]
    have et : tE X l b = b := by unfold tE; rw [if_neg hbl]
    unfold tkP
    rw [if_neg hbl]
    refine ⟨_, rfl, T6.put (by decide) _, ?_, ?_, sI_at _ _ _ _, fun z => absurd z n1, fun z => absurd z n2⟩
    · rw [sI_ne _ _ _ _ _ (by decide), sI_ne _ _ _ _ _ (by decide)]
      exact b5
    · rw [sI_ne _ _ _ _ _ (by decide), sI_ne _ _ _ _ _ (by decide), et]
      exact a5
end TOKR
