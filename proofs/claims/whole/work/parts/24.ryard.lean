/-! the reference's yards against the same mathematics -/
def Fs (h h' : AH) (S : List Nat) : Prop := hN h' = hN h ∧ hS h' = hS h ∧ hR h' = hR h ∧ ∀ q, q ∉ S → hI h' q = hI h q
theorem Fs.refl (h : AH) (S : List Nat) : Fs h h S := ⟨rfl, rfl, rfl, fun _ _ => rfl⟩
theorem Fs.trans {h h1 h2 : AH} {S : List Nat} (x : Fs h h1 S) (y : Fs h1 h2 S) : Fs h h2 S := ⟨y.1.trans x.1, y.2.1.trans x.2.1, y.2.2.1.trans x.2.2.1, fun q hq => (y.2.2.2 q hq).trans (x.2.2.2 q hq)⟩
theorem Fs.wide {h h1 : AH} {S S' : List Nat} (x : Fs h h1 S) (hs : ∀ q, q ∈ S → q ∈ S') : Fs h h1 S' := ⟨x.1, x.2.1, x.2.2.1, fun q hq => x.2.2.2 q (fun z => hq (hs q z))⟩
theorem Fs.sA {h h1 : AH} {S : List Nat} {q : Nat} {g : Nat → Int32} (x : Fs h h1 S) (hq : q ∈ S) : Fs h (sA h1 q g) S := ⟨x.1, x.2.1, x.2.2.1, fun r hr => (if_neg (show ¬ r = q from fun e => hr (e ▸ hq))).trans (x.2.2.2 r hr)⟩
theorem Fs.sL {h h1 : AH} {S : List Nat} {q j : Nat} {v : Int64} (x : Fs h h1 S) : Fs h (sL h1 q j v) S := x
theorem Lo.fs {h h1 : AH} {S : List Nat} (H : Lo h) (x : Fs h h1 S) : Lo h1 := ⟨x.1.trans H.1, fun q hq => by rw [x.2.1]; exact H.2.1 q hq, fun q k hq hn => by rw [x.2.2.1]; exact H.2.2 q k hq hn⟩
def RO (a : Nat) : Prop := a = 148 ∨ a = 157
theorem ro_ls {a : Nat} (ha : RO a) : a < 158 ∧ lyS a = (10, 52) := by
  rcases ha with e | e <;> subst e <;> exact ⟨by decide, by decide⟩
theorem r_ld {h : AH} {a k : Nat} (H : Lo h) (ha : RO a) (hk : k < 52) : ldA h a 10 (nI k) = some (hI h a k) := op_ldA H (ro_ls ha).1 (ro_ls ha).2 (by decide) hk
theorem r_st {h : AH} {a k : Nat} {v : Int32} (H : Lo h) (ha : RO a) (hk : k < 52) : stA h a 10 (nI k) v = some (sI h a k v) := op_stA H (ro_ls ha).1 (ro_ls ha).2 (by decide) hk
theorem r_ld0 {h : AH} {a : Nat} (H : Lo h) (ha : RO a) : ldA h a 10 0 = some (hI h a 0) := r_ld (k := 0) H ha (by decide)
theorem r_ld1 {h : AH} {a : Nat} (H : Lo h) (ha : RO a) : ldA h a 10 1 = some (hI h a 1) := r_ld (k := 1) H ha (by decide)
theorem r_st0 {h : AH} {a : Nat} {v : Int32} (H : Lo h) (ha : RO a) : stA h a 10 0 v = some (sI h a 0 v) := r_st (k := 0) H ha (by decide)
theorem r_st1 {h : AH} {a : Nat} {v : Int32} (H : Lo h) (ha : RO a) : stA h a 10 1 v = some (sI h a 1 v) := r_st (k := 1) H ha (by decide)
theorem o146_l0 {h : AH} (H : Lo h) : ldA h 146 10 0 = some (hI h 146 0) := o146_ld (k := 0) H (by decide)
theorem o146_l25 {h : AH} (H : Lo h) : ldA h 146 10 25 = some (hI h 146 25) := o146_ld (k := 25) H (by decide)
theorem al_1 (p : Nat) : (1 : Int32) + nI p = nI (1 + p) := nI_add 1 p
theorem al_2 (p : Nat) : (2 : Int32) + nI p = nI (2 + p) := nI_add 2 p
theorem al_9 (p : Nat) : (9 : Int32) + nI p = nI (9 + p) := nI_add 9 p
theorem al_10 (p : Nat) : (10 : Int32) + nI p = nI (10 + p) := nI_add 10 p
theorem al_17 (p : Nat) : (17 : Int32) + nI p = nI (17 + p) := nI_add 17 p
theorem al_18 (p : Nat) : (18 : Int32) + nI p = nI (18 + p) := nI_add 18 p
theorem al_26 (p : Nat) : (26 : Int32) + nI p = nI (26 + p) := nI_add 26 p
theorem al_31 (p : Nat) : (31 : Int32) + nI p = nI (31 + p) := nI_add 31 p
theorem al_34 (p : Nat) : (34 : Int32) + nI p = nI (34 + p) := nI_add 34 p
theorem al_36 (p : Nat) : (36 : Int32) + nI p = nI (36 + p) := nI_add 36 p
theorem al_39 (p : Nat) : (39 : Int32) + nI p = nI (39 + p) := nI_add 39 p
theorem al_44 (p : Nat) : (44 : Int32) + nI p = nI (44 + p) := nI_add 44 p
def RY (τ : TT) (t : Nat → Int32) (y : YT) : Prop :=
  (t 0 = y 0 9 ∧ t 1 = y 0 10 ∧ t 49 = y 0 11 ∧ t 50 = y 0 12 ∧ t 51 = y 0 13) ∧ (∀ p, p < tP τ → t (2 + p) = y 1 p ∧ t (10 + p) = y 2 p) ∧ (∀ p, p < 8 → t (18 + p) = y 3 p ∧ t (26 + p) = y 4 p) ∧ (∀ k, k < 5 → t (34 + k) = y 7 k ∧ t (39 + k) = y 8 k ∧ t (44 + k) = y 9 k)
def RK (τ : TT) (h : AH) (y : YT) : Prop := ∀ k, k < tH τ → hI h 154 k = y 5 k ∧ hI h 155 k = y 6 k
def RT0 (t : Nat → Int32) (τ : TT) : Prop :=
  t 0 = nI (tP τ) ∧ t 25 = nI (tH τ) ∧ (∀ p, p < tP τ → t (1 + p) = tY τ 1 p ∧ t (9 + p) = tY τ 2 p ∧ t (17 + p) = tY τ 3 p) ∧ (∀ k, k < tH τ → t (26 + k) = tY τ 4 k ∧ t (31 + k) = tY τ 5 k) ∧ ∀ d, d < 14 → t (36 + d) = tY τ 6 d
abbrev RT (h : AH) (τ : TT) : Prop := RT0 (hI h 146) τ
/-- what bounds a hen's liking from below -/
def VL (τ : TT) (y : YT) : Prop := (∀ p, p < tP τ → (∃ w, w ≤ 9 ∧ y 2 p = nI w) ∧ ∃ l, l ≤ 9 ∧ tY τ 3 p = nI l) ∧ (∀ k, k < tH τ → ∃ a, a ≤ 9 ∧ y 6 k = nI a) ∧ ∃ d, d ≤ 1100 ∧ y 0 9 = nI d
theorem lk_lo {x : Int32} {m a : Nat} (hm : m < 100) (ha : a < 100) (e : x = nI m - nI a) : ¬ x ≤ -1000000 := by
  rw [Int32.le_iff_toInt_le, e, pk_sub_toInt (by omega) (by omega)]
  have : (-1000000 : Int32).toInt = -1000000 := by decide
  omega
theorem lk_lo0 {x : Int32} {m : Nat} (hm : m < 100) (e : x = nI m) : ¬ x ≤ -1000000 := by
  rw [Int32.le_iff_toInt_le, e, nI_toInt (by omega)]
  have : (-1000000 : Int32).toInt = -1000000 := by decide
  omega
theorem lk_low {τ : TT} {y : YT} (V : VT τ) (L : VL τ y) {k p : Nat} (hk : k < tH τ) (hp : p < tP τ) : ¬ lkP τ y k p ≤ -1000000 := by
  obtain ⟨l1, l2, d, hd, ed⟩ := L
  obtain ⟨⟨w, hw, ew⟩, l, hl, el⟩ := l1 p hp
  obtain ⟨a, ha, ea⟩ := l2 k hk
  have e2 : (2 : Int32) * nI w + nI l = nI (2 * w + l) := by
    have : (2 : Int32) * nI w = nI (2 * w) := pk_mul 2 w
    rw [this, nI_add]
  unfold lkP
  rw [ew, el, ea, ed, e2]
  by_cases h0 : y 5 k = 0
  · rw [if_pos h0]
    split
    next => exact lk_lo (m := 2 * w + l) (a := a) (by omega) (by omega) rfl
    next => exact lk_lo0 (m := 2 * w + l) (by omega) rfl
  · rw [if_neg h0]
    by_cases h1 : y 5 k = 1
    · rw [if_pos h1]
      split
      next =>
        refine lk_lo (m := 2 * w + l + 9) (a := a) (by omega) (by omega) ?_
        have e9 : nI (2 * w + l + 9) = nI (2 * w + l) + 9 := (nI_add (2 * w + l) 9).symm
        rw [e9, Int32.sub_eq_add_neg, Int32.sub_eq_add_neg, Int32.add_assoc, Int32.add_assoc, Int32.add_comm (-nI a) 9]
      next => exact lk_lo0 (m := 2 * w + l) (by omega) rfl
    · rw [if_neg h1]
      by_cases h2 : y 5 k = 2
      · rw [if_pos h2]
        refine lk_lo0 (m := (l + d * a) % 10) (by omega) ?_
        rw [pk_mul, nI_add]
        have hda : d * a ≤ 1100 * 9 := Nat.mul_le_mul hd ha
        exact pk_rem (a := l + d * a) (d := 10) (by omega) (by omega) (by omega)
      · rw [if_neg h2]
        split
        next => decide
        next => decide
section RYARD
variable {h : AH} {a : Nat} {τ : TT} {y : YT}
theorem r_likes (H : Lo h) (ha : RO a) (V : VT τ) (R : RY τ (hI h a) y) (K : RK τ h y) (T : RT h τ) {k p : Nat} (hk : k < tH τ) (hp : p < tP τ) : F_X5_likes h 145 a (nI k) (nI p) = some (lkP τ y k p) := by
  have v1 := V.1
  have v2 := V.2
  have e2 : hI h a (10 + p) = y 2 p := (R.2.1 p hp).2
  have e3 : hI h 146 (17 + p) = tY τ 3 p := (T.2.2.1 p hp).2.2
  have e7 : hI h a (34 + k) = y 7 k := (R.2.2.2 k (by omega)).1
  have e5 : hI h 154 k = y 5 k := (K k hk).1
  have e6 : hI h 155 k = y 6 k := (K k hk).2
  have e9 : hI h a 0 = y 0 9 := R.1.1
  have e0 : hI h 146 0 = nI (tP τ) := T.1
  have hPz : ¬ nI (tP τ) = 0 := nI_ne0 (by omega) (by omega)
  have h10 : ¬ (10 : Int32) = 0 := by decide
  unfold F_X5_likes lkP
  simp only [o145_ck H, al_10, al_17, al_34, r_ld H ha (show 10 + p < 52 by omega), o145_R0 H, o145_R17 H, o145_R18 H, o146_ld H (show 17 + p < 50 by omega), r_ld H ha (show 34 + k < 52 by omega), o155_ld H (show k < 5 by omega), o154_ld H (show k < 5 by omega), r_ld0 H ha, o146_l0 H, Option.bind_some, e2, e3, e7, e5, e6, e9, e0, rmI, if_neg hPz, if_neg h10]
  have q0 : ¬ (2 : Int32) = 0 := by decide
  have q1 : ¬ (2 : Int32) = 1 := by decide
  have h71 : ¬ (1 : Int32) = 0 := by decide
  by_cases h7 : y 7 k = nI p
  · simp only [h7, not_true_eq_false, if_false, Option.bind_some, if_true]
    by_cases h50 : y 5 k = 0
    · simp only [h50, if_true]
    · by_cases h51 : y 5 k = 1
      · simp only [h51, h71, if_true, if_false]
      · by_cases h52 : y 5 k = 2
        · simp only [h52, q0, q1, if_true, if_false]
          rfl
        · simp only [h50, h51, h52, if_false]
          by_cases hr : nI p = rmd (y 6 k) (nI (tP τ))
          · rw [if_pos hr, if_neg (by unfold rmd at hr; exact not_not_intro hr.symm)]
          · rw [if_neg hr, if_pos (by unfold rmd at hr; exact fun z => hr z.symm)]
  · simp only [h7, not_false_eq_true, if_true, Option.bind_some, if_false, Int32.sub_zero]
    by_cases h50 : y 5 k = 0
    · simp only [h50, if_true]
    · by_cases h51 : y 5 k = 1
      · simp only [h51, h71, if_true, if_false]
      · by_cases h52 : y 5 k = 2
        · simp only [h52, q0, q1, if_true, if_false]
          rfl
        · simp only [h50, h51, h52, if_false]
          by_cases hr : nI p = rmd (y 6 k) (nI (tP τ))
          · rw [if_pos hr, if_neg (by unfold rmd at hr; exact not_not_intro hr.symm)]
          · rw [if_neg hr, if_pos (by unfold rmd at hr; exact fun z => hr z.symm)]
def bsM (b : Int32 × Int32) : Int32 := if b.1 = -1 then -1000000 else b.2
theorem r_best_loop {β : Type} {kk : Int32 → Int32 → Int32 → Option β} (H : Lo h) (ha : RO a) (V : VT τ) (L : VL τ y) (R : RY τ (hI h a) y) (K : RK τ h y) (T : RT h τ) {k : Nat} (hk : k < tH τ) : ∀ (m i f : Nat), i + m = tP τ → m < f → L_X5_bestOf_9 h 145 a (nI k) kk f (bsP τ y k i).1 (bsM (bsP τ y k i)) (nI i) = kk (bsP τ y k (tP τ)).1 (bsM (bsP τ y k (tP τ))) (nI (tP τ)) := by
  have v1 := V.1
  intro m
  induction m with
  | zero =>
    intro i f e hf
    obtain ⟨f, rfl⟩ : ∃ g, f = g + 1 := ⟨f - 1, by omega⟩
    have hi : i = tP τ := by omega
    subst hi
    unfold L_X5_bestOf_9
    rw [o145_R0 H, Option.bind_some, o146_l0 H, Option.bind_some, T.1, if_pos (nI_le (Nat.le_refl _) (by omega))]
  | succ m ih =>
    intro i f e hf
    obtain ⟨f, rfl⟩ : ∃ g, f = g + 1 := ⟨f - 1, by omega⟩
    unfold L_X5_bestOf_9
    have e3 : hI h a (18 + i) = y 3 i := (R.2.2.1 i (by omega)).1
    simp only [o145_R0 H, o146_l0 H, Option.bind_some, T.1, if_neg (nI_ge (show i < tP τ by omega) (show tP τ < 2 ^ 31 by omega)), al_18, r_ld H ha (show 18 + i < 52 by omega), e3, r_likes H ha V R K T hk (show i < tP τ by omega), nI_1]
    have hb : bsP τ y k (i + 1) = if ¬ y 3 i = -1 then bsP τ y k i else if (bsP τ y k i).1 = -1 then (nI i, lkP τ y k i) else if lkP τ y k i ≤ (bsP τ y k i).2 then bsP τ y k i else (nI i, lkP τ y k i) := rfl
    have go := ih (i + 1) f (by omega) (by omega)
    have hm : bsM (nI i, lkP τ y k i) = lkP τ y k i := if_neg (nI_m1 (by omega))
    by_cases he : y 3 i = -1
    · rw [if_neg (not_not_intro he)] at hb
      simp only [he, not_true_eq_false, if_false]
      by_cases h1 : (bsP τ y k i).1 = -1
      · rw [if_pos h1] at hb
        rw [hb, hm] at go
        have hm2 : bsM (bsP τ y k i) = -1000000 := if_pos h1
        simp only [hm2, if_neg (lk_low V L hk (show i < tP τ by omega)), Option.bind_some]
        exact go
      · rw [if_neg h1] at hb
        have hm2 : bsM (bsP τ y k i) = (bsP τ y k i).2 := if_neg h1
        by_cases h2 : lkP τ y k i ≤ (bsP τ y k i).2
        · rw [if_pos h2] at hb
          rw [hb, hm2] at go
          simp only [hm2, h2, if_true, Option.bind_some]
          exact go
        · rw [if_neg h2] at hb
          rw [hb, hm] at go
          simp only [hm2, h2, if_false, Option.bind_some]
          exact go
    · rw [if_pos he] at hb
      rw [hb] at go
      simp only [he, not_false_eq_true, if_true, Option.bind_some]
      exact go
theorem r_best (H : Lo h) (ha : RO a) (V : VT τ) (L : VL τ y) (R : RY τ (hI h a) y) (K : RK τ h y) (T : RT h τ) {k : Nat} (hk : k < tH τ) : F_X5_bestOf h 145 a (nI k) = some (bsP τ y k (tP τ)).1 := by
  have v1 := V.1
  unfold F_X5_bestOf
  rw [o145_ck H, Option.bind_some]
  exact r_best_loop H ha V L R K T hk (tP τ) 0 FU (by omega) (by unfold FU; omega)
end RYARD
