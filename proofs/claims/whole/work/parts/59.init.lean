/-! the constructors, from the empty heap -/
def e0 : AH := (0, fun _ => (0, 0), fun _ _ => none, fun _ _ => 0, fun _ _ => 0)
noncomputable def X5pre (h : AH) (o : Nat) : Option (AH) :=
  Option.bind (some (sN h 10 50)) fun h1 =>
  Option.bind (ptR h1 o 5 0 (hN h)) fun h2 =>
  Option.bind (some (sN h2 10 50)) fun h3 =>
  Option.bind (ptR h3 o 5 1 (hN h2)) fun h4 =>
  Option.bind (some (sN h4 10 52)) fun h5 =>
  Option.bind (ptR h5 o 5 2 (hN h4)) fun h6 =>
  Option.bind (some (sN h6 10 416)) fun h7 =>
  Option.bind (ptR h7 o 5 3 (hN h6)) fun h8 =>
  Option.bind (some (sN h8 10 104)) fun h9 =>
  Option.bind (ptR h9 o 5 5 (hN h8)) fun h10 =>
  Option.bind (some (sN h10 12 2)) fun h11 =>
  Option.bind (ptR h11 o 5 6 (hN h10)) fun h12 =>
  Option.bind (some (sN h12 10 160)) fun h13 =>
  Option.bind (ptR h13 o 5 7 (hN h12)) fun h14 =>
  Option.bind (some (sN h14 10 18)) fun h15 =>
  Option.bind (ptR h15 o 5 9 (hN h14)) fun h16 =>
  Option.bind (some (sN h16 10 5)) fun h17 =>
  Option.bind (ptR h17 o 5 17 (hN h16)) fun h18 =>
  Option.bind (some (sN h18 10 5)) fun h19 =>
  Option.bind (ptR h19 o 5 18 (hN h18)) fun h20 =>
  Option.bind (some (sN h20 10 5)) fun h21 =>
  Option.bind (ptR h21 o 5 19 (hN h20)) fun h22 =>
  Option.bind (some (sN h22 10 52)) fun h23 =>
  Option.bind (ptR h23 o 5 20 (hN h22)) fun h24 =>
  some h24
theorem x5_pre (h : AH) (o : Nat) : F_X5_init h o = Option.bind (X5pre h o) fun h24 => Option.bind (gtR h24 o 5 0) fun r25 => Option.bind (F_X5_blank h24 r25) fun h26 => Option.bind (F_X5_begins h26 o) fun h27 => some h27 := by
  unfold F_X5_init X5pre
  simp only [Option.bind_assoc, Option.bind_some]
noncomputable def hA : AH := (F_X4_init (sN e0 4 11) 0).getD e0
noncomputable def hB : AH := (X5pre (sN hA 5 21) 145).getD e0
theorem gd_some {α : Type} {m : Option α} {d : α} (h : m.isSome = true) : m = some (m.getD d) := by
  cases m with
  | none => cases h
  | some x => rfl
theorem hA_some : (F_X4_init (sN e0 4 11) 0).isSome = true := by decide +kernel
theorem hA_N : hN hA = 145 := by decide +kernel
theorem hA_eq : F_X4_init (sN e0 4 11) 0 = some hA := gd_some hA_some
theorem hB_some : (X5pre (sN hA 5 21) 145).isSome = true := by decide +kernel
theorem hB_eq : X5pre (sN hA 5 21) 145 = some hB := gd_some hB_some
theorem hB_N : hN hB = 158 := by decide +kernel
theorem hB_S : ∀ q, q < 158 → hS hB q = lyS q := by decide +kernel
theorem hB_R : ∀ q, q < 158 → q ≠ 37 → ∀ k, k < 21 → hR hB q k = lyR q k := by decide +kernel
theorem ly_big : ∀ q, q < 158 → (lrL.getD q []).length ≤ 21 := by decide +kernel
theorem hB_P : ∀ i, i < 8 → hR hB 37 i = some (45 + 10 * i) := by decide +kernel
/-- no reference beyond the twenty first -/
def Bd (h : AH) : Prop := ∀ q k, 21 ≤ k → hR h q k = none
def KB (m : Option AH) : Prop := ∀ y, m = some y → Bd y
theorem kb_some {h : AH} (b : Bd h) : KB (some h) := fun y e => by cases e; exact b
theorem kb_bind {m : Option AH} {f : AH → Option AH} (a : KB m) (b : ∀ x, Bd x → KB (f x)) : KB (Option.bind m f) := by
  cases m with
  | none => intro y e; cases e
  | some x => exact b x (a x rfl)
theorem kb_bindN {α : Type} {m : Option α} {f : α → Option AH} (b : ∀ x, KB (f x)) : KB (Option.bind m f) := by
  cases m with
  | none => intro y e; cases e
  | some x => exact b x
theorem kb_if {c : Prop} [Decidable c] {h : AH} (b : Bd h) : KB (if c then some h else none) := by
  split
  · exact kb_some b
  · intro y e; cases e
theorem bd_sN {h : AH} {t n : Nat} (b : Bd h) : Bd (sN h t n) := fun q k hk => by
  show va_up (hR h) (hN h) (fun _ => none) q k = none
  unfold va_up
  split
  · rfl
  · exact b q k hk
theorem bd_sR {h : AH} {o j : Nat} {v : Option Nat} (b : Bd h) (hj : j < 21) : Bd (sR h o j v) := fun q k hk => by
  show va_up (hR h) o (va_up (hR h o) j v) q k = none
  unfold va_up
  split
  · exact (if_neg (show ¬ k = j by omega)).trans (b o k hk)
  · exact b q k hk
theorem kb_sN {h : AH} {t n : Nat} (b : Bd h) : KB (some (sN h t n)) := kb_some (bd_sN b)
theorem kb_ptR {h : AH} {o ci k v : Nat} (b : Bd h) (hk : k < 21) : KB (ptR h o ci k v) := kb_if (bd_sR b hk)
theorem kb_stA {h : AH} {o t : Nat} {x v : Int32} (b : Bd h) : KB (stA h o t x v) := kb_if (fun q k hk => b q k hk)
theorem kb_stR {h : AH} {o v : Nat} {x : Int32} (b : Bd h) (hx : x.toNatClampNeg < 21) : KB (stR h o x v) := kb_if (bd_sR b hx)
theorem kb_fl {o0 : Nat} {x1 x3 : Int32} : ∀ (n : Nat) (h : AH) (x2 : Int32), Bd h → KB (L_J7_fill_53178_5 o0 x1 x3 (fun h2 _ => some h2) n h x2) := by
  intro n
  induction n with
  | zero => intro h x2 b y e; cases e
  | succ n ih =>
    intro h x2 b
    unfold L_J7_fill_53178_5
    split
    · exact kb_some b
    · exact kb_bind (kb_stA b) fun x bx => ih x _ bx
theorem kb_fill {h : AH} {o : Nat} {v : Int32} (b : Bd h) : KB (F_J7_fill_53178 h o v) := by
  unfold F_J7_fill_53178
  exact kb_bindN fun x => kb_fl _ _ _ b
theorem kb_x0 {h : AH} {o : Nat} (b : Bd h) : KB (F_X0_init h o) := by
  unfold F_X0_init
  repeat first
    | exact kb_some (by assumption)
    | refine kb_bind (kb_sN (by assumption)) fun _ _ => ?_
    | refine kb_bind (kb_ptR (by assumption) (by decide)) fun _ _ => ?_
theorem kb_x1 {h : AH} {o : Nat} (b : Bd h) : KB (F_X1_init h o) := by
  unfold F_X1_init
  repeat first
    | exact kb_some (by assumption)
    | refine kb_bind (kb_sN (by assumption)) fun _ _ => ?_
    | refine kb_bind (kb_ptR (by assumption) (by decide)) fun _ _ => ?_
theorem kb_x2 {h : AH} {o : Nat} (b : Bd h) : KB (F_X2_init h o) := by
  unfold F_X2_init
  repeat first
    | exact kb_some (by assumption)
    | refine kb_bind (kb_sN (by assumption)) fun _ _ => ?_
    | refine kb_bind (kb_ptR (by assumption) (by decide)) fun _ _ => ?_
    | refine kb_bind (kb_fill (by assumption)) fun _ _ => ?_
    | refine kb_bindN fun _ => ?_
theorem kb_x3 {h : AH} {o : Nat} (b : Bd h) : KB (F_X3_init h o) := by
  unfold F_X3_init
  repeat first
    | exact kb_some (by assumption)
    | refine kb_bind (kb_sN (by assumption)) fun _ _ => ?_
    | refine kb_bind (kb_ptR (by assumption) (by decide)) fun _ _ => ?_
    | refine kb_bind (kb_fill (by assumption)) fun _ _ => ?_
    | refine kb_bindN fun _ => ?_
theorem kb_x4 {h : AH} {o : Nat} (b : Bd h) : KB (F_X4_init h o) := by
  unfold F_X4_init
  repeat first
    | exact kb_some (by assumption)
    | refine kb_bind (kb_sN (by assumption)) fun _ _ => ?_
    | refine kb_bind (kb_ptR (by assumption) (by decide)) fun _ _ => ?_
    | refine kb_bind (kb_x0 (by assumption)) fun _ _ => ?_
    | refine kb_bind (kb_x1 (by assumption)) fun _ _ => ?_
    | refine kb_bind (kb_x2 (by assumption)) fun _ _ => ?_
    | refine kb_bind (kb_x3 (by assumption)) fun _ _ => ?_
    | refine kb_bind (kb_stR (by assumption) (by decide)) fun _ _ => ?_
    | refine kb_bindN fun _ => ?_
theorem kb_x5 {h : AH} {o : Nat} (b : Bd h) : KB (X5pre h o) := by
  unfold X5pre
  repeat first
    | exact kb_some (by assumption)
    | refine kb_bind (kb_sN (by assumption)) fun _ _ => ?_
    | refine kb_bind (kb_ptR (by assumption) (by decide)) fun _ _ => ?_
theorem hB_Bd : Bd hB := kb_x5 (bd_sN (kb_x4 (bd_sN (fun _ _ _ => rfl)) hA hA_eq)) hB hB_eq
theorem hB_Lo : Lo hB := by
  refine ⟨hB_N, hB_S, fun q k hq h37 => ?_⟩
  by_cases hk : k < 21
  · exact hB_R q hq h37 k hk
  · rw [hB_Bd q k (by omega)]
    unfold lyR
    have := ly_big q hq
    rw [List.getD_eq_getElem?_getD, List.getElem?_eq_none (by omega)]
    rfl
def τ0 : TT := (0, 0, fun r _ => if r = 6 then -1 else 0)
def σ0 : SG := (τ0, bgP τ0, (0, fun _ => bgP τ0), ((fun _ => false), fun _ => bgP τ0), (0, fun _ _ => 0), (0, fun _ => 0))
theorem vt_0 : VT2 τ0 := ⟨⟨by decide, by decide⟩, fun p hp => absurd hp (Nat.not_lt_zero p), fun p hp => absurd hp (Nat.not_lt_zero p), fun d _ => Or.inl rfl⟩
theorem vi_0 : VI σ0 := ⟨vt_0, vy_bg vt_0, ⟨by decide, fun i hi => absurd hi (Nat.not_lt_zero i)⟩, (fun k _ z => by cases z), ⟨by decide, fun i hi => absurd hi (Nat.not_lt_zero i)⟩, by decide, fun i hi => absurd hi (Nat.not_lt_zero i)⟩
theorem ct_0 : hI hB 3 0 = 0 ∧ hI hB 3 1 = 0 ∧ (∀ d, d < 14 → hI hB 9 d = -1) ∧ hI hB 0 6 = 0 ∧ (∀ k, k < 2 → hI hB 39 k = 0) ∧ hI hB 40 3 = 0 ∧ hI hB 1 1 = 0 ∧ hI hB 145 8 = 0 := by decide +kernel
theorem cy_0 : (∀ j, j < 14 → hI hB 17 j = 0) ∧ (∀ p, p < 8 → hI hB 20 p = -1) ∧ ∀ k, k < 5 → hI hB 24 k = -1 ∧ hI hB 25 k = 0 ∧ hI hB 26 k = 0 := by decide +kernel
theorem ci_0 : CI hB σ0 := by
  obtain ⟨a1, a2, a3, a4, a5, a6, a7, a8⟩ := ct_0
  obtain ⟨b1, b2, b3⟩ := cy_0
  refine ⟨⟨a1, a2, fun p hp => absurd hp (Nat.not_lt_zero p), fun p hp => absurd hp (Nat.not_lt_zero p), fun d hd => a3 d hd⟩, ⟨fun j h9 h13 => ?_, fun p hp => absurd hp (Nat.not_lt_zero p), fun p hp => ⟨b2 p hp, fun z => absurd rfl z⟩, fun p hp => absurd hp (Nat.not_lt_zero p), fun k hk => b3 k hk⟩, ⟨a4, fun i => i, fun i hi => ⟨hi, hB_P i hi⟩, fun i j _ _ e => e, fun p hp => absurd hp (Nat.not_lt_zero p)⟩, fun k hk => ⟨a5 k hk, (fun z => by cases z)⟩, ⟨a6, fun p hp => absurd hp (Nat.not_lt_zero p)⟩, a7, fun p hp => absurd hp (Nat.not_lt_zero p)⟩
  exact b1 j (by omega)
theorem start : ∃ h, F_X5_init (sN hA 5 21) 145 = some h ∧ Lo h ∧ CI h σ0 ∧ RI h σ0 := by
  have H := hB_Lo
  have H2 : Lo (sA hB 146 (fun q => if q < 50 then (if 36 ≤ q then -1 else 0) else hI hB 146 q)) := H.sA _ _
  have F2 : Fs hB (sA hB 146 (fun q => if q < 50 then (if 36 ≤ q then -1 else 0) else hI hB 146 q)) [146] := (Fs.refl hB _).sA (by decide)
  have R2 : RT (sA hB 146 (fun q => if q < 50 then (if 36 ≤ q then -1 else 0) else hI hB 146 q)) τ0 := by
    unfold RT
    rw [hI_sA, if_pos rfl]
    refine ⟨rfl, rfl, fun p hp => absurd hp (Nat.not_lt_zero p), fun p hp => absurd hp (Nat.not_lt_zero p), fun d hd => ?_⟩
    show (if 36 + d < 50 then (if 36 ≤ 36 + d then (-1 : Int32) else 0) else hI hB 146 (36 + d)) = -1
    rw [if_pos (by omega), if_pos (by omega)]
  obtain ⟨h, k1, k2, k3, k4, k5, k6, k7, k8⟩ := r_begins H2 vt_0.1 R2
  have F : Fs hB h [145, 146, 148, 151] := (F2.wide (by decide)).trans (k2.wide (by decide))
  have e8 : hI h 145 8 = 0 := by
    rw [k8 8 (by decide) (by decide), F2.2.2.2 145 (by decide)]
    exact ct_0.2.2.2.2.2.2.2
  refine ⟨h, ?_, H2.fs k2, ci_0.fr (F.r H (by decide)) vi_0, ?_, k3, ⟨k4, fun p hp => absurd hp (Nat.not_lt_zero p)⟩, fun k hk => ⟨?_, (fun z => by cases z)⟩, ⟨k5, fun p hp => absurd hp (Nat.not_lt_zero p)⟩, e8, fun p hp => absurd hp (Nat.not_lt_zero p)⟩
  · rw [x5_pre, hB_eq, Option.bind_some, o145_R0 H, Option.bind_some, blank_ok H ls_146, Option.bind_some, k1, Option.bind_some]
  · show RT h τ0
    unfold RT
    rw [k2.2.2.2 146 (by decide)]
    exact R2
  · have : k = 0 ∨ k = 1 := by omega
    rcases this with rfl | rfl
    · exact k6
    · exact k7
