/-! tokens of THE TEXT on both sides -/
theorem ff : ¬ (false = true) := by decide
theorem tt : (true = true) := rfl
def smB (v : Int32) : Bool := decide (¬ v < 97 ∧ ¬ 122 < v)
def dgB (v : Int32) : Bool := decide (¬ v < 48 ∧ ¬ 57 < v)
def skP (X : Nat → Int32) : Nat → Nat → Nat
  | 0, i => i
  | m + 1, i => if X i = 32 then skP X m (i + 1) else i
def rnP (p : Int32 → Bool) (X : Nat → Int32) : Nat → Nat → Nat
  | 0, i => i
  | m + 1, i => if p (X i) then rnP p X m (i + 1) else i
def tB (X : Nat → Int32) (l pos : Nat) : Nat := skP X (l - pos) pos
def tE (X : Nat → Int32) (l b : Nat) : Nat := if b < l then (if smB (X b) then rnP smB X (l - (b + 1)) (b + 1) else if dgB (X b) then rnP dgB X (l - (b + 1)) (b + 1) else b + 1) else b
theorem sk_le (X : Nat → Int32) : ∀ m i, i ≤ skP X m i ∧ skP X m i ≤ i + m := by
  intro m
  induction m with
  | zero => intro i; exact ⟨Nat.le_refl _, Nat.le_refl _⟩
  | succ m ih =>
    intro i
    unfold skP
    split
    · have := ih (i + 1); omega
    · omega
theorem rn_le (p : Int32 → Bool) (X : Nat → Int32) : ∀ m i, i ≤ rnP p X m i ∧ rnP p X m i ≤ i + m := by
  intro m
  induction m with
  | zero => intro i; exact ⟨Nat.le_refl _, Nat.le_refl _⟩
  | succ m ih =>
    intro i
    unfold rnP
    split
    · have := ih (i + 1); omega
    · omega
theorem rn_all (p : Int32 → Bool) (X : Nat → Int32) : ∀ m i j, i ≤ j → j < rnP p X m i → p (X j) = true := by
  intro m
  induction m with
  | zero => intro i j h1 h2; exact absurd h2 (Nat.not_lt.mpr h1)
  | succ m ih =>
    intro i j h1 h2
    unfold rnP at h2
    split at h2
    next hp =>
      by_cases hj : j = i
      · subst hj; exact hp
      · exact ih (i + 1) j (by omega) h2
    next => omega
theorem tB_le (X : Nat → Int32) {l pos : Nat} (h : pos ≤ l) : pos ≤ tB X l pos ∧ tB X l pos ≤ l := by
  have := sk_le X (l - pos) pos
  unfold tB
  omega
theorem tE_le (X : Nat → Int32) {l b : Nat} (h : b ≤ l) : b ≤ tE X l b ∧ tE X l b ≤ l := by
  unfold tE
  split
  next hb =>
    have h1 := rn_le smB X (l - (b + 1)) (b + 1)
    have h2 := rn_le dgB X (l - (b + 1)) (b + 1)
    split
    · omega
    · split <;> omega
  next => omega
theorem smB_ok (h : AH) (v : Int32) : F_X1_isSmall h v = some (bI (smB v)) := by
  unfold F_X1_isSmall smB bI
  by_cases h1 : v < 97
  · simp [h1]
  · by_cases h2 : 122 < v
    · simp [h1, h2]
    · simp [h1, h2]
theorem dgB_ok (h : AH) (v : Int32) : F_X1_isDigit h v = some (bI (dgB v)) := by
  unfold F_X1_isDigit dgB bI
  by_cases h1 : v < 48
  · simp [h1]
  · by_cases h2 : 57 < v
    · simp [h1, h2]
    · simp [h1, h2]
theorem nltI (x y : Int32) : ¬ x < y ↔ y ≤ x := by
  simp only [Int32.le_iff_toInt_le, Int32.lt_iff_toInt_lt]
  omega
theorem in_sm (h : AH) (v : Int32) : F_X5_in h v.toInt64 97 122 = some (bI (smB v)) := by
  rw [in_ok h v 97 122 97 122 (by decide) (by decide)]
  unfold smB bI
  by_cases hc : ¬ v < 97 ∧ ¬ 122 < v
  · rw [if_pos ⟨(nltI _ _).mp hc.1, (nltI _ _).mp hc.2⟩, decide_eq_true hc]; rfl
  · rw [if_neg (fun z => hc ⟨(nltI _ _).mpr z.1, (nltI _ _).mpr z.2⟩), decide_eq_false hc]; rfl
theorem in_dg (h : AH) (v : Int32) : F_X5_in h v.toInt64 48 57 = some (bI (dgB v)) := by
  rw [in_ok h v 48 57 48 57 (by decide) (by decide)]
  unfold dgB bI
  by_cases hc : ¬ v < 48 ∧ ¬ 57 < v
  · rw [if_pos ⟨(nltI _ _).mp hc.1, (nltI _ _).mp hc.2⟩, decide_eq_true hc]; rfl
  · rw [if_neg (fun z => hc ⟨(nltI _ _).mpr z.1, (nltI _ _).mpr z.2⟩), decide_eq_false hc]; rfl
/-! the class's nextToken -/
def Tx (h h' : AH) (a : List Nat) : Prop := Fr h h' 1 2 ∧ ∀ j, j ∉ a → hI h' 1 j = hI h 1 j
theorem Tx.refl (h : AH) (a : List Nat) : Tx h h a := ⟨Fr.refl _ _ _, fun _ _ => rfl⟩
theorem Tx.trans {h h1 h2 : AH} {a : List Nat} (x : Tx h h1 a) (y : Tx h1 h2 a) : Tx h h2 a := ⟨x.1.trans y.1, fun j hj => (y.2 j hj).trans (x.2 j hj)⟩
theorem Tx.put {h h1 : AH} {a : List Nat} (x : Tx h h1 a) {j : Nat} (hj : j ∈ a) (v : Int32) : Tx h (sI h1 1 j v) a := ⟨x.1.sA (by omega) (by omega), fun k hk => (sI_ne _ _ _ _ _ (fun e : k = j => hk (by rw [e]; exact hj))).trans (x.2 k hk)⟩
theorem Tx.wide {h h1 : AH} {a b : List Nat} (x : Tx h h1 a) (hs : ∀ q, q ∈ a → q ∈ b) : Tx h h1 b := ⟨x.1, fun j hj => x.2 j (fun z => hj (hs j z))⟩
theorem TextC.tx {h h' : AH} {l : Nat} {X : Nat → Int32} {a : List Nat} (C : TextC h l X) (T : Tx h h' a) (h1 : 1 ∉ a) : TextC h' l X := by
  unfold TextC at C ⊢
  rw [T.2 1 h1, T.1.2.2.2 2 (by omega)]
  exact C
section TOKC
variable {l : Nat} {X : Nat → Int32}
theorem c_sk_loop {β : Type} {k : AH → Option β} (hl : l ≤ 160) : ∀ (m i f : Nat) (h : AH), Lo h → TextC h l X → hI h 1 3 = nI i → i + m = l → m < f → ∃ h', L_X1_nextToken_8 1 k f h = k h' ∧ Tx h h' [3] ∧ hI h' 1 3 = nI (skP X m i) := by
  intro m
  induction m with
  | zero =>
    intro i f h H C e3 e hf
    obtain ⟨f, rfl⟩ : ∃ g, f = g + 1 := ⟨f - 1, by omega⟩
    have hi : i = l := by omega
    subst hi
    refine ⟨h, ?_, Tx.refl _ _, e3⟩
    conv => lhs; unfold L_X1_nextToken_8
    rw [o1_gI H, Option.bind_some, o1_gI H, Option.bind_some, e3, C.1, if_pos (nI_le (Nat.le_refl _) (by omega))]
  | succ m ih =>
    intro i f h H C e3 e hf
    obtain ⟨f, rfl⟩ : ∃ g, f = g + 1 := ⟨f - 1, by omega⟩
    have ex : hI h 2 i = X i := C.2 i (by omega)
    have step : L_X1_nextToken_8 1 k (f + 1) h = if ¬ X i = 32 then k h else L_X1_nextToken_8 1 k f (sI h 1 3 (nI (i + 1))) := by
      conv => lhs; unfold L_X1_nextToken_8
      rw [o1_gI H, Option.bind_some, o1_gI H, Option.bind_some, e3, C.1, if_neg (nI_ge (by omega) (by omega)), o1_R0 H, Option.bind_some, Option.bind_some, o2_ld H (by omega), Option.bind_some, ex, Option.bind_some, nI_1, o1_pI H, Option.bind_some]
    rw [step]
    unfold skP
    by_cases h32 : X i = 32
    · rw [if_neg (not_not_intro h32), if_pos h32]
      have T1 : Tx h (sI h 1 3 (nI (i + 1))) [3] := (Tx.refl h _).put (by decide) _
      obtain ⟨h', n1, n2, n3⟩ := ih (i + 1) f _ (H.sA _ _) (C.tx T1 (by decide)) (sI_at _ _ _ _) (by omega) (by omega)
      exact ⟨h', n1, T1.trans n2, n3⟩
    · rw [if_pos h32, if_neg h32]
      exact ⟨h, rfl, Tx.refl _ _, e3⟩
theorem c_sm_loop {β : Type} {k : AH → Option β} (hl : l ≤ 160) : ∀ (m i f : Nat) (h : AH), Lo h → TextC h l X → hI h 1 4 = nI i → i + m = l → m < f → ∃ h', L_X1_nextToken_91 1 k f h = k h' ∧ Tx h h' [4] ∧ hI h' 1 4 = nI (rnP smB X m i) := by
  intro m
  induction m with
  | zero =>
    intro i f h H C e3 e hf
    obtain ⟨f, rfl⟩ : ∃ g, f = g + 1 := ⟨f - 1, by omega⟩
    have hi : i = l := by omega
    subst hi
    refine ⟨h, ?_, Tx.refl _ _, e3⟩
    conv => lhs; unfold L_X1_nextToken_91
    rw [o1_gI H, Option.bind_some, o1_gI H, Option.bind_some, e3, C.1, if_pos (nI_le (Nat.le_refl _) (by omega))]
  | succ m ih =>
    intro i f h H C e3 e hf
    obtain ⟨f, rfl⟩ : ∃ g, f = g + 1 := ⟨f - 1, by omega⟩
    have ex : hI h 2 i = X i := C.2 i (by omega)
    have step : L_X1_nextToken_91 1 k (f + 1) h = if bI (smB (X i)) = 0 then k h else L_X1_nextToken_91 1 k f (sI h 1 4 (nI (i + 1))) := by
      conv => lhs; unfold L_X1_nextToken_91
      rw [o1_gI H, Option.bind_some, o1_gI H, Option.bind_some, e3, C.1, if_neg (nI_ge (by omega) (by omega)), o1_R0 H, Option.bind_some, Option.bind_some, o2_ld H (by omega), Option.bind_some, ex, smB_ok, Option.bind_some, Option.bind_some, nI_1, o1_pI H, Option.bind_some]
    rw [step]
    unfold rnP
    cases hc : smB (X i) with
    | true =>
      rw [if_neg bI_t, if_pos tt]
      have T1 : Tx h (sI h 1 4 (nI (i + 1))) [4] := (Tx.refl h _).put (by decide) _
      obtain ⟨h', n1, n2, n3⟩ := ih (i + 1) f _ (H.sA _ _) (C.tx T1 (by decide)) (sI_at _ _ _ _) (by omega) (by omega)
      exact ⟨h', n1, T1.trans n2, n3⟩
    | false =>
      rw [if_pos bI_f, if_neg ff]
      exact ⟨h, rfl, Tx.refl _ _, e3⟩
theorem c_dg_loop {β : Type} {k : AH → Option β} (hl : l ≤ 160) : ∀ (m i f : Nat) (h : AH), Lo h → TextC h l X → hI h 1 4 = nI i → i + m = l → m < f → ∃ h', L_X1_nextToken_145 1 k f h = k h' ∧ Tx h h' [4] ∧ hI h' 1 4 = nI (rnP dgB X m i) := by
  intro m
  induction m with
  | zero =>
    intro i f h H C e3 e hf
    obtain ⟨f, rfl⟩ : ∃ g, f = g + 1 := ⟨f - 1, by omega⟩
    have hi : i = l := by omega
    subst hi
    refine ⟨h, ?_, Tx.refl _ _, e3⟩
    conv => lhs; unfold L_X1_nextToken_145
    rw [o1_gI H, Option.bind_some, o1_gI H, Option.bind_some, e3, C.1, if_pos (nI_le (Nat.le_refl _) (by omega))]
  | succ m ih =>
    intro i f h H C e3 e hf
    obtain ⟨f, rfl⟩ : ∃ g, f = g + 1 := ⟨f - 1, by omega⟩
    have ex : hI h 2 i = X i := C.2 i (by omega)
    have step : L_X1_nextToken_145 1 k (f + 1) h = if bI (dgB (X i)) = 0 then k h else L_X1_nextToken_145 1 k f (sI h 1 4 (nI (i + 1))) := by
      conv => lhs; unfold L_X1_nextToken_145
      rw [o1_gI H, Option.bind_some, o1_gI H, Option.bind_some, e3, C.1, if_neg (nI_ge (by omega) (by omega)), o1_R0 H, Option.bind_some, Option.bind_some, o2_ld H (by omega), Option.bind_some, ex, dgB_ok, Option.bind_some, Option.bind_some, nI_1, o1_pI H, Option.bind_some]
    rw [step]
    unfold rnP
    cases hc : dgB (X i) with
    | true =>
      rw [if_neg bI_t, if_pos tt]
      have T1 : Tx h (sI h 1 4 (nI (i + 1))) [4] := (Tx.refl h _).put (by decide) _
      obtain ⟨h', n1, n2, n3⟩ := ih (i + 1) f _ (H.sA _ _) (C.tx T1 (by decide)) (sI_at _ _ _ _) (by omega) (by omega)
      exact ⟨h', n1, T1.trans n2, n3⟩
    | false =>
      rw [if_pos bI_f, if_neg ff]
      exact ⟨h, rfl, Tx.refl _ _, e3⟩
theorem c_tok {h : AH} (hl : l ≤ 160) (H : Lo h) (C : TextC h l X) {pos : Nat} (hp : pos ≤ l) (e4 : hI h 1 4 = nI pos) : ∃ h', F_X1_nextToken h 1 = some h' ∧ Tx h h' [3, 4] ∧ hI h' 1 3 = nI (tB X l pos) ∧ hI h' 1 4 = nI (tE X l (tB X l pos)) := by
  have T1 : Tx h (sI h 1 3 (nI pos)) [3, 4] := (Tx.refl h _).put (by decide) _
  have hb := tB_le X hp
  have main : ∀ (k : AH → Option AH), ∃ h2, L_X1_nextToken_8 1 k FU (sI h 1 3 (nI pos)) = k h2 ∧ Tx (sI h 1 3 (nI pos)) h2 [3] ∧ hI h2 1 3 = nI (tB X l pos) := fun k => c_sk_loop hl (l - pos) pos FU _ (H.sA _ _) (C.tx T1 (by decide)) (sI_at _ _ _ _) (by omega) (by unfold FU; omega)
  unfold F_X1_nextToken
  rw [o1_ck H, Option.bind_some, o1_gI H, Option.bind_some, e4, o1_pI H, Option.bind_some]
  obtain ⟨h2, k1, k2, k3⟩ := main _
  rw [k1]
  generalize tB X l pos = b at hb k3
  have T2 : Tx h h2 [3, 4] := T1.trans (k2.wide (by decide))
  have H2 : Lo h2 := H.fr T2.1
  have T3 : Tx h (sI h2 1 4 (nI b)) [3, 4] := T2.put (by decide) _
  have H3 : Lo (sI h2 1 4 (nI b)) := H2.sA _ _
  have C3 := C.tx T3 (by decide)
  have e33 : hI (sI h2 1 4 (nI b)) 1 3 = nI b := (sI_ne _ _ _ _ _ (by decide)).trans k3
  rw [o1_gI H2, Option.bind_some, k3, o1_pI H2, Option.bind_some, o1_gI H3, Option.bind_some, o1_gI H3, Option.bind_some, e33, C3.1]
  unfold tE
  by_cases hbl : b < l
  · have T4 : Tx h (sI (sI h2 1 4 (nI b)) 1 4 (nI (b + 1))) [3, 4] := T3.put (by decide) _
    have H4 : Lo (sI (sI h2 1 4 (nI b)) 1 4 (nI (b + 1))) := H3.sA _ _
    have C4 := C.tx T4 (by decide)
    have e43 : hI (sI (sI h2 1 4 (nI b)) 1 4 (nI (b + 1))) 1 3 = nI b := (sI_ne _ _ _ _ _ (by decide)).trans e33
    have ex : hI (sI (sI h2 1 4 (nI b)) 1 4 (nI (b + 1))) 2 b = X b := C4.2 b hbl
    rw [if_pos (nI_lt hbl (by omega)), if_pos hbl]
    simp only [o1_gI H3, Option.bind_some, sI_at, nI_1, o1_pI H3, o1_R0 H4, o1_gI H4, e43, o2_ld H4 (show b < 160 by omega), ex, smB_ok, dgB_ok]
    cases hs : smB (X b) with
    | true =>
      rw [if_neg bI_t, if_pos tt]
      obtain ⟨h5, n1, n2, n3⟩ := c_sm_loop (X := X) (l := l) (k := fun h24 => some h24) hl (l - (b + 1)) (b + 1) FU _ H4 C4 (sI_at _ _ _ _) (by omega) (by unfold FU; omega)
      exact ⟨h5, n1, T4.trans (n2.wide (by decide)), (n2.2 3 (by decide)).trans e43, n3⟩
    | false =>
      rw [if_pos bI_f, if_neg ff]
      cases hd : dgB (X b) with
      | true =>
        rw [if_neg bI_t, if_pos tt]
        obtain ⟨h5, n1, n2, n3⟩ := c_dg_loop (X := X) (l := l) (k := fun h23 => some h23) hl (l - (b + 1)) (b + 1) FU _ H4 C4 (sI_at _ _ _ _) (by omega) (by unfold FU; omega)
        exact ⟨h5, n1, T4.trans (n2.wide (by decide)), (n2.2 3 (by decide)).trans e43, n3⟩
      | false =>
        rw [if_pos bI_f, if_neg ff]
        exact ⟨_, rfl, T4, e43, sI_at _ _ _ _⟩
  · rw [if_neg (nI_nlt (by omega) (by omega)), if_neg hbl]
    exact ⟨_, rfl, T3, e33, sI_at _ _ _ _⟩
end TOKC
