/-! the whole state as mathematics, and what ties each side to it -/
abbrev SG : Type := TT × YT × (Nat × (Nat → YT)) × ((Nat → Bool) × (Nat → YT)) × (Nat × (Nat → Nat → Int32)) × (Nat × (Nat → Int32))
def zT (σ : SG) : TT := σ.1
def zY (σ : SG) : YT := σ.2.1
def zM (σ : SG) : Nat := σ.2.2.1.1
def zP (σ : SG) : Nat → YT := σ.2.2.1.2
def zB (σ : SG) : Nat → Bool := σ.2.2.2.1.1
def zK (σ : SG) : Nat → YT := σ.2.2.2.1.2
def zN (σ : SG) : Nat := σ.2.2.2.2.1.1
def zD (σ : SG) : Nat → Nat → Int32 := σ.2.2.2.2.1.2
def zL (σ : SG) : Nat := σ.2.2.2.2.2.1
def zX (σ : SG) : Nat → Int32 := σ.2.2.2.2.2.2
def bI (b : Bool) : Int32 := if b then 1 else 0
def PastC (h : AH) (τ : TT) (m : Nat) (P : Nat → YT) : Prop := ∃ π : Nat → Nat, (∀ i, i < 8 → π i < 8 ∧ hR h 37 i = some (45 + 10 * π i)) ∧ (∀ i j, i < 8 → j < 8 → π i = π j → i = j) ∧ ∀ i, i < m → CY τ (Yc h (45 + 10 * π i)) (P i)
def KeptC (h : AH) (τ : TT) (b : Nat → Bool) (K : Nat → YT) : Prop := ∀ k, k < 2 → hI h 39 k = bI (b k) ∧ (b k = true → CY τ (Yc h (125 + 10 * k)) (K k))
def SeenC (h : AH) (n : Nat) (D : Nat → Nat → Int32) : Prop := hI h 40 3 = nI n ∧ ∀ i, i < n → hI h 41 i = D i 0 ∧ hI h 42 i = D i 1 ∧ hI h 43 i = D i 2
def TextC (h : AH) (l : Nat) (X : Nat → Int32) : Prop := hI h 1 1 = nI l ∧ ∀ i, i < l → hI h 2 i = X i
def CI (h : AH) (σ : SG) : Prop := CT h 3 (zT σ) ∧ CY (zT σ) (Yc h 17) (zY σ) ∧ (hI h 0 6 = nI (zM σ) ∧ PastC h (zT σ) (zM σ) (zP σ)) ∧ KeptC h (zT σ) (zB σ) (zK σ) ∧ SeenC h (zN σ) (zD σ) ∧ TextC h (zL σ) (zX σ)
def PastR (h : AH) (τ : TT) (m : Nat) (P : Nat → YT) : Prop := ∀ i, i < m → RY τ (fun j => hI h 149 (52 * i + j)) (P i)
def KeptR (h : AH) (τ : TT) (b : Nat → Bool) (K : Nat → YT) : Prop := ∀ k, k < 2 → hI h 151 k = bI (b k) ∧ (b k = true → RY τ (fun j => hI h 150 (52 * k + j)) (K k))
def SeenR (h : AH) (n : Nat) (D : Nat → Nat → Int32) : Prop := hI h 145 10 = nI n ∧ ∀ i, i < n → hI h 153 (3 * i) = D i 0 ∧ hI h 153 (3 * i + 1) = D i 1 ∧ hI h 153 (3 * i + 2) = D i 2
def TextR (h : AH) (l : Nat) (X : Nat → Int32) : Prop := hI h 145 8 = nI l ∧ ∀ i, i < l → hI h 152 i = X i
def RI (h : AH) (σ : SG) : Prop := RT h (zT σ) ∧ RY (zT σ) (hI h 148) (zY σ) ∧ (hI h 145 4 = nI (zM σ) ∧ PastR h (zT σ) (zM σ) (zP σ)) ∧ KeptR h (zT σ) (zB σ) (zK σ) ∧ SeenR h (zN σ) (zD σ) ∧ TextR h (zL σ) (zX σ)
def VT2 (τ : TT) : Prop := VT τ ∧ (∀ p, p < tP τ → (∃ m, m ≤ 7 ∧ tY τ 1 p = nI m) ∧ (∃ w, w ≤ 9 ∧ tY τ 2 p = nI w) ∧ ∃ l, l ≤ 9 ∧ tY τ 3 p = nI l) ∧ (∀ k, k < tH τ → (∃ c, c ≤ 3 ∧ tY τ 4 k = nI c) ∧ ∃ a, a ≤ 9 ∧ tY τ 5 k = nI a) ∧ ∀ d, d < 14 → tY τ 6 d = -1 ∨ ∃ m, m ≤ 7 ∧ tY τ 6 d = nI m
def VY (τ : TT) (y : YT) : Prop := (∃ d, d ≤ 999 ∧ y 0 9 = nI d) ∧ (y 0 10 = 0 ∨ y 0 10 = 1) ∧ (∀ p, p < tP τ → (∃ m, m ≤ 7 ∧ y 1 p = nI m) ∧ ∃ w, w ≤ 9 ∧ y 2 p = nI w) ∧ (∀ k, k < tH τ → y 5 k = tY τ 4 k ∧ y 6 k = tY τ 5 k) ∧ ∀ k, k < 5 → ∃ r, r ≤ (y 0 9).toNatClampNeg ∧ y 8 k = nI r
def VI (σ : SG) : Prop := VT2 (zT σ) ∧ VY (zT σ) (zY σ) ∧ (zM σ ≤ 8 ∧ ∀ i, i < zM σ → VY (zT σ) (zP σ i)) ∧ (∀ k, k < 2 → zB σ k = true → VY (zT σ) (zK σ k)) ∧ (zN σ ≤ 6 ∧ ∀ i, i < zN σ → (∃ k, k < 5 ∧ zD σ i 0 = nI k) ∧ ∃ d, 1 ≤ d ∧ d ≤ 14 ∧ zD σ i 1 = nI d) ∧ (zL σ ≤ 160 ∧ ∀ i, i < zL σ → ∃ c, c ≤ 255 ∧ zX σ i = nI c)
theorem Gd.of {τ : TT} {y : YT} (V : VT2 τ) (W : VY τ y) : ∃ d, d ≤ 999 ∧ Gd τ y d := by
  obtain ⟨⟨d, hd, ed⟩, w2, w3, w4, -⟩ := W
  refine ⟨d, hd, fun p hp => ⟨(w3 p hp).2, (V.2.1 p hp).2.2⟩, fun k hk => ?_, ed, w2⟩
  rw [(w4 k hk).2]
  exact (V.2.2.1 k hk).2
def FrC (h h' : AH) : Prop := Lo h' ∧ ∀ q, 145 ≤ q → hI h' q = hI h q
def FrR (h h' : AH) : Prop := Lo h' ∧ (∀ k, hR h' 37 k = hR h 37 k) ∧ ∀ q, q < 145 → hI h' q = hI h q
theorem CI.keep {h h' : AH} {σ : SG} (C : CI h σ) (e : ∀ q, q < 145 → q ≠ 1 → (q < 10 ∨ 17 ≤ q) → (q < 27 ∨ 37 ≤ q) → q ≠ 44 → hI h' q = hI h q) (e1 : hI h' 1 1 = hI h 1 1) (eR : ∀ k, hR h' 37 k = hR h 37 k) (V : VI σ) : CI h' σ := by
  obtain ⟨c1, c2, ⟨c3, π, p1, p2, p3⟩, c4, c5, c6⟩ := C
  have yk : ∀ o, (o = 17 ∨ 45 ≤ o) → o + 10 ≤ 145 → ∀ i, i < 10 → Yc h' o i = Yc h o i := by
    intro o ho ho2 i hi
    funext j
    show hI h' (o + i) j = hI h (o + i) j
    rw [e (o + i) (by omega) (by omega) (by omega) (by omega) (by omega)]
  have cyk : ∀ o τ y, (o = 17 ∨ 45 ≤ o) → o + 10 ≤ 145 → CY τ (Yc h o) y → CY τ (Yc h' o) y := by
    intro o τ y ho ho2 C
    have e := yk o ho ho2
    unfold CY at C ⊢
    rw [e 0 (by omega), e 1 (by omega), e 2 (by omega), e 3 (by omega), e 4 (by omega), e 5 (by omega), e 6 (by omega), e 7 (by omega), e 8 (by omega), e 9 (by omega)]
    exact C
  refine ⟨?_, cyk 17 _ _ (Or.inl rfl) (by omega) c2, ⟨?_, π, fun i hi => ⟨(p1 i hi).1, by rw [eR]; exact (p1 i hi).2⟩, p2, fun i hi => ?_⟩, fun k hk => ⟨?_, fun hb => ?_⟩, ?_, ?_⟩
  · unfold CT at c1 ⊢
    rw [e 3 (by omega) (by omega) (by omega) (by omega) (by omega), e (3 + 1) (by omega) (by omega) (by omega) (by omega) (by omega), e (3 + 2) (by omega) (by omega) (by omega) (by omega) (by omega), e (3 + 3) (by omega) (by omega) (by omega) (by omega) (by omega), e (3 + 4) (by omega) (by omega) (by omega) (by omega) (by omega), e (3 + 5) (by omega) (by omega) (by omega) (by omega) (by omega), e (3 + 6) (by omega) (by omega) (by omega) (by omega) (by omega)]
    exact c1
  · rw [e 0 (by omega) (by omega) (by omega) (by omega) (by omega)]; exact c3
  · have hm := V.2.2.1.1
    have := (p1 i (by omega)).1
    exact cyk _ _ _ (Or.inr (by omega)) (by omega) (p3 i hi)
  · rw [e 39 (by omega) (by omega) (by omega) (by omega) (by omega)]; exact (c4 k hk).1
  · exact cyk _ _ _ (Or.inr (by omega)) (by omega) ((c4 k hk).2 hb)
  · unfold SeenC at c5 ⊢
    rw [e 40 (by omega) (by omega) (by omega) (by omega) (by omega), e 41 (by omega) (by omega) (by omega) (by omega) (by omega), e 42 (by omega) (by omega) (by omega) (by omega) (by omega), e 43 (by omega) (by omega) (by omega) (by omega) (by omega)]
    exact c5
  · unfold TextC at c6 ⊢
    rw [e1, e 2 (by omega) (by omega) (by omega) (by omega) (by omega)]
    exact c6
theorem RI.keep {h h' : AH} {σ : SG} (R : RI h σ) (e : ∀ q, q ∈ [146, 148, 149, 150, 151, 152, 153] → hI h' q = hI h q) (e4 : hI h' 145 4 = hI h 145 4) (e8 : hI h' 145 8 = hI h 145 8) (e10 : hI h' 145 10 = hI h 145 10) : RI h' σ := by
  obtain ⟨r1, r2, ⟨r3, r4⟩, r5, r6, r7⟩ := R
  refine ⟨?_, ?_, ⟨?_, ?_⟩, ?_, ?_, ?_⟩
  · unfold RT at r1 ⊢; rw [e 146 (by decide)]; exact r1
  · rw [e 148 (by decide)]; exact r2
  · rw [e4]; exact r3
  · unfold PastR at r4 ⊢; rw [e 149 (by decide)]; exact r4
  · unfold KeptR at r5 ⊢; rw [e 150 (by decide), e 151 (by decide)]; exact r5
  · unfold SeenR at r6 ⊢; rw [e10, e 153 (by decide)]; exact r6
  · unfold TextR at r7 ⊢; rw [e8, e 152 (by decide)]; exact r7
theorem RI.fr {h h' : AH} {σ : SG} (R : RI h σ) (F : FrC h h') : RI h' σ := by
  have k : ∀ q ∈ [146, 148, 149, 150, 151, 152, 153], 145 ≤ q := by decide
  exact R.keep (fun q hq => F.2 q (k q hq)) (by rw [F.2 145 (by omega)]) (by rw [F.2 145 (by omega)]) (by rw [F.2 145 (by omega)])
theorem CI.fr {h h' : AH} {σ : SG} (C : CI h σ) (F : FrR h h') (V : VI σ) : CI h' σ := C.keep (fun q hq _ _ _ _ => F.2.2 q hq) (by rw [F.2.2 1 (by omega)]) F.2.1 V
theorem CI.fore {h h' : AH} {σ : SG} (C : CI h σ) (V : VI σ) (F : Fr h h' 27 37) : CI h' σ := C.keep (fun q _ _ _ h3 _ => F.2.2.2 q h3) (by rw [F.2.2.2 1 (by omega)]) (fun k => by rw [F.2.2.1]) V
theorem Fr.c {h h' : AH} {a b : Nat} (H : Lo h) (F : Fr h h' a b) (hb : b ≤ 145) : FrC h h' := ⟨H.fr F, fun q hq => F.2.2.2 q (by omega)⟩
theorem Fs.r {h h' : AH} {S : List Nat} (H : Lo h) (F : Fs h h' S) (hS : ∀ q ∈ S, 145 ≤ q) : FrR h h' := ⟨H.fs F, fun k => by rw [F.2.2.1], fun q hq => F.2.2.2 q (fun z => absurd (hS q z) (by omega))⟩
theorem RI.fore {h h' : AH} {σ : SG} {S : List Nat} (R : RI h σ) (F : Fs h h' S) (hS : ∀ q ∈ S, q ∈ [147, 154, 155, 156, 157]) : RI h' σ := by
  have k : ∀ q, q ∈ [145, 146, 148, 149, 150, 151, 152, 153] → hI h' q = hI h q := fun q hq => F.2.2.2 q (fun z => by
    have := hS q z
    have d : ∀ q ∈ [145, 146, 148, 149, 150, 151, 152, 153], q ∉ [147, 154, 155, 156, 157] := by decide
    exact d q hq this)
  exact R.keep (fun q hq => k q (List.mem_cons_of_mem _ hq)) (by rw [k 145 (by decide)]) (by rw [k 145 (by decide)]) (by rw [k 145 (by decide)])
/-- both sides answer alike, and go on alike -/
def Op (FC FR : AH → Option (Int32 × AH)) (σ : SG) : Prop := ∃ ans σ', VI σ' ∧ (∀ h, Lo h → CI h σ → ∃ h', FC h = some (ans, h') ∧ CI h' σ' ∧ FrC h h') ∧ ∀ h, Lo h → RI h σ → ∃ h', FR h = some (ans, h') ∧ RI h' σ' ∧ FrR h h'
theorem FrC.refl {h : AH} (H : Lo h) : FrC h h := ⟨H, fun _ _ => rfl⟩
theorem FrR.refl {h : AH} (H : Lo h) : FrR h h := ⟨H, fun _ => rfl, fun _ _ => rfl⟩
theorem Op.const {FC FR : AH → Option (Int32 × AH)} {σ : SG} (ans : Int32) (V : VI σ) (c : ∀ h, Lo h → CI h σ → FC h = some (ans, h)) (r : ∀ h, Lo h → RI h σ → FR h = some (ans, h)) : Op FC FR σ := ⟨ans, σ, V, fun h H C => ⟨h, c h H C, C, FrC.refl H⟩, fun h H R => ⟨h, r h H R, R, FrR.refl H⟩⟩
/-- what only scratch changes for -/
theorem Op.fore {FC FR : AH → Option (Int32 × AH)} {σ : SG} (ans : Int32) (V : VI σ) (c : ∀ h, Lo h → CI h σ → ∃ h', FC h = some (ans, h') ∧ Fr h h' 27 37) (r : ∀ h, Lo h → RI h σ → ∃ h', FR h = some (ans, h') ∧ Fs h h' [154, 155, 156, 157]) : Op FC FR σ :=
  ⟨ans, σ, V, fun h H C => by
    obtain ⟨h', k1, k2⟩ := c h H C
    exact ⟨h', k1, C.fore V k2, k2.c H (by omega)⟩, fun h H R => by
    obtain ⟨h', k1, k2⟩ := r h H R
    exact ⟨h', k1, R.fore k2 (by decide), k2.r H (by decide)⟩⟩
section TESTS
variable {h : AH} {τ : TT}
theorem c_isP_no {x : Int32} (H : Lo h) (T : CT h 3 τ) (hx : x < 0 ∨ nI (tP τ) ≤ x) : F_X4_isPlace h 0 x = some 0 := by
  unfold F_X4_isPlace
  rw [o0_ck H, Option.bind_some]
  by_cases h0 : x < 0
  · rw [if_pos h0]
  · rw [if_neg h0, o0_R1 H, Option.bind_some, t_gI H to_3, Option.bind_some, T.1, if_pos (hx.resolve_left h0)]
theorem c_isP_yes {p : Nat} (H : Lo h) (V : VT τ) (T : CT h 3 τ) (hp : p < tP τ) : F_X4_isPlace h 0 (nI p) = some 1 := by
  have v1 := V.1
  unfold F_X4_isPlace
  rw [o0_ck H, Option.bind_some, if_neg (nI_pos (by omega)), o0_R1 H, Option.bind_some, t_gI H to_3, Option.bind_some, T.1, if_neg (nI_ge hp (by omega))]
theorem c_isH_no {x : Int32} (H : Lo h) (T : CT h 3 τ) (hx : x < 0 ∨ nI (tH τ) ≤ x) : F_X4_isHen h 0 x = some 0 := by
  unfold F_X4_isHen
  rw [o0_ck H, Option.bind_some]
  by_cases h0 : x < 0
  · rw [if_pos h0]
  · rw [if_neg h0, o0_R1 H, Option.bind_some, t_gI H to_3, Option.bind_some, T.2.1, if_pos (hx.resolve_left h0)]
theorem c_isH_yes {p : Nat} (H : Lo h) (V : VT τ) (T : CT h 3 τ) (hp : p < tH τ) : F_X4_isHen h 0 (nI p) = some 1 := by
  have v1 := V.2
  unfold F_X4_isHen
  rw [o0_ck H, Option.bind_some, if_neg (nI_pos (by omega)), o0_R1 H, Option.bind_some, t_gI H to_3, Option.bind_some, T.2.1, if_neg (nI_ge hp (by omega))]
theorem bz_0 : bz 0 = some 0 := by decide
theorem bz_1 : bz 1 = some 1 := by decide
theorem in_upto {x : Int32} {n : Nat} (hn : n < 100) : F_X5_in h x.toInt64 0 (Int32.toInt64 (nI n - 1)) = some (if 0 ≤ x ∧ x < nI n then 1 else 0) := by
  rw [in_ok h x 0 (nI n - 1) 0 _ (by decide) rfl]
  congr 1
  have e : (nI n - 1).toInt = (n : Int) - 1 := pk_sub_toInt (a := n) (b := 1) (by omega) (by omega)
  have e2 : (nI n).toInt = (n : Int) := nI_toInt (by omega)
  have iff : (0 ≤ x ∧ x ≤ nI n - 1) ↔ (0 ≤ x ∧ x < nI n) := by
    simp only [Int32.le_iff_toInt_le, Int32.lt_iff_toInt_lt, e, e2]
    omega
  by_cases hc : 0 ≤ x ∧ x < nI n
  · rw [if_pos hc, if_pos (iff.mpr hc)]
  · rw [if_neg hc, if_neg (fun z => hc (iff.mp z))]
theorem not_in {x : Int32} {n : Nat} (hx : x < 0 ∨ nI n ≤ x) : ¬ (0 ≤ x ∧ x < nI n) := by
  simp only [Int32.le_iff_toInt_le, Int32.lt_iff_toInt_lt] at hx ⊢
  omega
theorem r_isP_no {x : Int32} (H : Lo h) (V : VT τ) (T : RT h τ) (hx : x < 0 ∨ nI (tP τ) ≤ x) : F_X5_isPlace h 145 x = some 0 := by
  have v1 := V.1
  unfold F_X5_isPlace
  rw [o145_ck H, Option.bind_some, o145_R0 H, Option.bind_some, o146_l0 H, Option.bind_some, T.1, in_upto (by omega), if_neg (not_in hx), Option.bind_some, bz_0, Option.bind_some]
theorem r_isP_yes {p : Nat} (H : Lo h) (V : VT τ) (T : RT h τ) (hp : p < tP τ) : F_X5_isPlace h 145 (nI p) = some 1 := by
  have v1 := V.1
  unfold F_X5_isPlace
  rw [o145_ck H, Option.bind_some, o145_R0 H, Option.bind_some, o146_l0 H, Option.bind_some, T.1, in_upto (by omega), if_pos ⟨nI_pos' (by omega), nI_lt hp (by omega)⟩, Option.bind_some, bz_1, Option.bind_some]
theorem r_isH_no {x : Int32} (H : Lo h) (V : VT τ) (T : RT h τ) (hx : x < 0 ∨ nI (tH τ) ≤ x) : F_X5_isHen h 145 x = some 0 := by
  have v1 := V.2
  unfold F_X5_isHen
  rw [o145_ck H, Option.bind_some, o145_R0 H, Option.bind_some, o146_l25 H, Option.bind_some, T.2.1, in_upto (by omega), if_neg (not_in hx), Option.bind_some, bz_0, Option.bind_some]
theorem r_isH_yes {p : Nat} (H : Lo h) (V : VT τ) (T : RT h τ) (hp : p < tH τ) : F_X5_isHen h 145 (nI p) = some 1 := by
  have v1 := V.2
  unfold F_X5_isHen
  rw [o145_ck H, Option.bind_some, o145_R0 H, Option.bind_some, o146_l25 H, Option.bind_some, T.2.1, in_upto (by omega), if_pos ⟨nI_pos' (by omega), nI_lt hp (by omega)⟩, Option.bind_some, bz_1, Option.bind_some]
theorem r_two (x : Int32) : F_X5_isTwo h x = some (if 0 ≤ x ∧ x ≤ 1 then 1 else 0) := by
  unfold F_X5_isTwo
  rw [in_ok h x 0 1 0 1 (by decide) (by decide), Option.bind_some]
  by_cases hc : 0 ≤ x ∧ x ≤ 1
  · rw [if_pos hc, bz_1, Option.bind_some]
  · rw [if_neg hc, bz_0, Option.bind_some]
theorem ixs (x : Int32) {n : Nat} (hn : n < 2 ^ 31) : (x < 0 ∨ nI n ≤ x) ∨ ∃ j, j < n ∧ x = nI j := by
  rcases pk_ix x hn with h | h | h
  · exact Or.inl (Or.inl h)
  · exact Or.inl (Or.inr h)
  · exact Or.inr h
end TESTS
