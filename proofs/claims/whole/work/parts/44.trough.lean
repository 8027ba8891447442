/-! trough -/
def Ft (h h' : AH) : Prop := hN h' = hN h ∧ hS h' = hS h ∧ hR h' = hR h ∧ ∀ q, (q < 27 ∨ 37 ≤ q) → q ≠ 44 → hI h' q = hI h q
theorem Ft.trans {h h1 h2 : AH} (x : Ft h h1) (y : Ft h1 h2) : Ft h h2 := ⟨y.1.trans x.1, y.2.1.trans x.2.1, y.2.2.1.trans x.2.2.1, fun q hq hn => (y.2.2.2 q hq hn).trans (x.2.2.2 q hq hn)⟩
theorem Fr.t1 {h h1 : AH} (x : Fr h h1 27 37) : Ft h h1 := ⟨x.1, x.2.1, x.2.2.1, fun q hq _ => x.2.2.2 q hq⟩
theorem Fr.t2 {h h1 : AH} (x : Fr h h1 44 45) : Ft h h1 := ⟨x.1, x.2.1, x.2.2.1, fun q _ hn => x.2.2.2 q (by omega)⟩
theorem Lo.ft {h h1 : AH} (H : Lo h) (x : Ft h h1) : Lo h1 := ⟨x.1.trans H.1, fun q hq => by rw [x.2.1]; exact H.2.1 q hq, fun q k hq hn => by rw [x.2.2.1]; exact H.2.2 q k hq hn⟩
theorem CI.ft {h h' : AH} {σ : SG} (C : CI h σ) (V : VI σ) (F : Ft h h') : CI h' σ := C.keep (fun q _ _ _ h3 h4 => F.2.2.2 q h3 h4) (by rw [F.2.2.2 1 (by omega) (by omega)]) (fun k => by rw [F.2.2.1]) V
theorem Op.fore2 {FC FR : AH → Option (Int32 × AH)} {σ : SG} (ans : Int32) (V : VI σ) (c : ∀ h, Lo h → CI h σ → ∃ h', FC h = some (ans, h') ∧ Ft h h') (r : ∀ h, Lo h → RI h σ → ∃ h', FR h = some (ans, h') ∧ Fs h h' [154, 155, 156, 157]) : Op FC FR σ :=
  ⟨ans, σ, V, fun h H C => by
    obtain ⟨h', k1, k2⟩ := c h H C
    exact ⟨h', k1, C.ft V k2, H.ft k2, fun q hq => k2.2.2.2 q (by omega) (by omega)⟩, fun h H R => by
    obtain ⟨h', k1, k2⟩ := r h H R
    exact ⟨h', k1, R.fore k2 (by decide), k2.r H (by decide)⟩⟩
theorem ar_8 (i v : Nat) : nI i * 8 + nI v = nI (i * 8 + v) := by
  have : nI i * 8 = nI (i * 8) := pk_mul i 8
  rw [this, nI_add]
section TROUGH
variable {σ : SG}
theorem c_te_loop {β : Type} {kk : AH → Int32 → Option β} {τ : TT} {w : YT} (V : VT τ) {v : Nat} (hv : v < 8) : ∀ (m i f : Nat) (h : AH), Lo h → CT h 3 τ → CY τ (Yc h 27) w → i + m = tP τ → m < f → ∃ h', L_X4_tallyEggs_2 0 (nI v) kk f h (nI i) = kk h' (nI (tP τ)) ∧ Fr h h' 44 45 ∧ ∀ p, p < 8 → ∀ q, q < 8 → hI h' 44 (p * 8 + q) = if i ≤ p ∧ p < tP τ ∧ q = v ∧ ¬ w 3 p = -1 then hI h 44 (p * 8 + q) + 1 else hI h 44 (p * 8 + q) := by
  have v1 := V.1
  intro m
  induction m with
  | zero =>
    intro i f h H T C e hf
    obtain ⟨f, rfl⟩ : ∃ g, f = g + 1 := ⟨f - 1, by omega⟩
    have hi : i = tP τ := by omega
    subst hi
    refine ⟨h, ?_, Fr.refl _ _ _, fun p hp q hq => by rw [if_neg (by omega)]⟩
    conv => lhs; unfold L_X4_tallyEggs_2
    rw [o0_R1 H, Option.bind_some, t_gI H to_3, Option.bind_some, T.1, if_pos (nI_le (Nat.le_refl _) (by omega))]
  | succ m ih =>
    intro i f h H T C e hf
    obtain ⟨f, rfl⟩ : ∃ g, f = g + 1 := ⟨f - 1, by omega⟩
    have e3 : hI h (27 + 3) i = w 3 i := (C.2.2.1 i (by omega)).1
    by_cases he : w 3 i = -1
    · obtain ⟨h', n1, n2, n3⟩ := ih (i + 1) f h H T C (by omega) (by omega)
      refine ⟨h', ?_, n2, fun p hp q hq => ?_⟩
      · conv => lhs; unfold L_X4_tallyEggs_2
        rw [o0_R1 H, Option.bind_some, t_gI H to_3, Option.bind_some, T.1, if_neg (nI_ge (by omega) (by omega)), o0_R4 H, Option.bind_some, y_R2 H yo_27, Option.bind_some, y_ld3 H yo_27 (by omega), Option.bind_some, e3, if_pos he, Option.bind_some, nI_1]
        exact n1
      · rw [n3 p hp q hq]
        by_cases hpi : p = i
        · subst hpi
          rw [if_neg (by omega), if_neg (fun z => z.2.2.2 he)]
        · by_cases hc : i ≤ p ∧ p < tP τ ∧ q = v ∧ ¬ w 3 p = -1
          · rw [if_pos hc, if_pos ⟨by omega, hc.2⟩]
          · rw [if_neg hc, if_neg (fun z => hc ⟨by omega, z.2⟩)]
    · have F1 : Fr h (sI h 44 (i * 8 + v) (hI h 44 (i * 8 + v) + 1)) 44 45 := (Fr.refl h _ _).sA (by omega) (by omega)
      obtain ⟨h', n1, n2, n3⟩ := ih (i + 1) f _ (H.fr F1) (T.fr F1 (Or.inl (by omega))) (C.fr F1 (Or.inl (by omega))) (by omega) (by omega)
      refine ⟨h', ?_, F1.trans n2, fun p hp q hq => ?_⟩
      · conv => lhs; unfold L_X4_tallyEggs_2
        unfold F_X4_hitIndex
        rw [o0_R1 H, Option.bind_some, t_gI H to_3, Option.bind_some, T.1, if_neg (nI_ge (by omega) (by omega)), o0_R4 H, Option.bind_some, y_R2 H yo_27, Option.bind_some, y_ld3 H yo_27 (by omega), Option.bind_some, e3, if_neg he, o0_R10 H, Option.bind_some, Option.bind_some, ar_8, o44_ld H (by omega), Option.bind_some, o44_st H (by omega), Option.bind_some, Option.bind_some, nI_1]
        exact n1
      · rw [n3 p hp q hq]
        by_cases hpi : p = i
        · subst hpi
          rw [if_neg (by omega)]
          by_cases hqv : q = v
          · subst hqv
            rw [sI_at, if_pos ⟨by omega, by omega, rfl, he⟩]
          · rw [sI_ne _ _ _ _ _ (by omega), if_neg (fun z => hqv z.2.2.1)]
        · rw [sI_ne _ _ _ _ _ (by omega)]
          by_cases hc : i ≤ p ∧ p < tP τ ∧ q = v ∧ ¬ w 3 p = -1
          · rw [if_pos hc, if_pos ⟨by omega, hc.2⟩]
          · rw [if_neg hc, if_neg (fun z => hc ⟨by omega, z.2⟩)]
theorem c_te {h : AH} {τ : TT} {w : YT} (V : VT τ) (H : Lo h) (T : CT h 3 τ) (C : CY τ (Yc h 27) w) {v : Nat} (hv : v < 8) : ∃ h', F_X4_tallyEggs h 0 (nI v) = some h' ∧ Fr h h' 44 45 ∧ ∀ p, p < tP τ → ∀ q, q < 8 → hI h' 44 (p * 8 + q) = if q = v ∧ ¬ w 3 p = -1 then hI h 44 (p * 8 + q) + 1 else hI h 44 (p * 8 + q) := by
  have v1 := V.1
  obtain ⟨h', n1, n2, n3⟩ := c_te_loop (kk := fun h11 _ => some h11) V hv (tP τ) 0 FU h H T C (by omega) (by unfold FU; omega)
  refine ⟨h', ?_, n2, fun p hp q hq => ?_⟩
  · rw [nI_0] at n1
    unfold F_X4_tallyEggs
    rw [o0_ck H, Option.bind_some, n1]
  · rw [n3 p (by omega) q hq]
    by_cases hc : q = v ∧ ¬ w 3 p = -1
    · rw [if_pos hc, if_pos ⟨by omega, hp, hc⟩]
    · rw [if_neg hc, if_neg (fun z => hc z.2.2)]
def HT (h : AH) (τ : TT) (y : YT) (d n : Nat) : Prop := ∀ p, p < tP τ → ∀ q, q < 8 → hI h 44 (p * 8 + q) = nI (htP τ y d p (nI q) n)
theorem c_th_loop {β : Type} {kk : AH → Int32 → Option β} (V : VI σ) {n d : Nat} (hn : n ≤ 20) (hd : d ≤ 999) (gd : Gd (zT σ) (zY σ) d) : ∀ (m i f : Nat) (h : AH), Lo h → CI h σ → CY (zT σ) (Yc h 27) (itP (zT σ) (zY σ) i) → HT h (zT σ) (zY σ) d i → i + m = n → m < f → ∃ h', L_X4_tallyHits_21 0 (nI n) kk f h (nI i) = kk h' (nI n) ∧ Ft h h' ∧ HT h' (zT σ) (zY σ) d n := by
  have v1 := V.1.1.1
  intro m
  induction m with
  | zero =>
    intro i f h H C C2 hT e hf
    obtain ⟨f, rfl⟩ : ∃ g, f = g + 1 := ⟨f - 1, by omega⟩
    have hi : i = n := by omega
    subst hi
    refine ⟨h, ?_, ⟨rfl, rfl, rfl, fun _ _ _ => rfl⟩, hT⟩
    conv => lhs; unfold L_X4_tallyHits_21
    rw [if_pos (nI_le (Nat.le_refl _) (by omega))]
  | succ m ih =>
    intro i f h H C C2 hT e hf
    obtain ⟨f, rfl⟩ : ∃ g, f = g + 1 := ⟨f - 1, by omega⟩
    have gi := gd.it i
    have e9 : hI h 27 9 = nI (d + i) := (C2.1 9 (by omega) (by omega)).trans gi.2.2.1
    have hnews := c_news H to_3 C.1 (d := d + i) (by omega)
    obtain ⟨h1, k1, k2, k3⟩ := c_pass H yo_27 to_3 V.1.1 C2 C.1 (d := d + i) (by omega) gi.2.2.1
    have H1 := H.fr k2
    have C1 := C.fore V k2
    have k3' : CY (zT σ) (Yc h1 27) (itP (zT σ) (zY σ) (i + 1)) := k3
    have e44 : hI h1 44 = hI h 44 := k2.2.2.2 44 (by omega)
    have hm14 : (d + i) % 14 < 14 := Nat.mod_lt _ (by omega)
    have hh : ∀ p q, htP (zT σ) (zY σ) d p (nI q) (i + 1) = htP (zT σ) (zY σ) d p (nI q) i + (if ¬ itP (zT σ) (zY σ) (i + 1) 3 p = -1 ∧ tY (zT σ) 6 ((d + i) % 14) = nI q then 1 else 0) := fun p q => rfl
    have step : L_X4_tallyHits_21 0 (nI n) kk (f + 1) h (nI i) = Option.bind (α := AH) (if tY (zT σ) 6 ((d + i) % 14) = -1 then some h1 else Option.bind (F_X4_tallyEggs h1 0 (tY (zT σ) 6 ((d + i) % 14))) fun h9 => some h9) fun q8 => L_X4_tallyHits_21 0 (nI n) kk f q8 (nI (i + 1)) := by
      conv => lhs; unfold L_X4_tallyHits_21
      rw [if_neg (nI_ge (by omega) (by omega)), o0_R1 H, Option.bind_some, o0_R4 H, Option.bind_some, y_gI H yo_27, Option.bind_some, e9, hnews, Option.bind_some, Option.bind_some, Option.bind_some, k1, Option.bind_some, nI_1]
    rw [step]
    rcases V.1.2.2.2 _ hm14 with hv | ⟨v, hv, ev⟩
    · rw [if_pos hv, Option.bind_some]
      obtain ⟨h', n1, n2, n3⟩ := ih (i + 1) f h1 H1 C1 k3' (fun p hp q hq => by
        rw [e44, hT p hp q hq, hh p q, if_neg (fun z => by
          rw [hv] at z
          exact nI_m1 (show q < 2 ^ 31 by omega) z.2.symm), Nat.add_zero]) (by omega) (by omega)
      exact ⟨h', n1, k2.t1.trans n2, n3⟩
    · rw [ev, if_neg (nI_m1 (by omega))]
      obtain ⟨h2, l1, l2, l3⟩ := c_te V.1.1 H1 C1.1 k3' (show v < 8 by omega)
      rw [l1, Option.bind_some, Option.bind_some]
      obtain ⟨h', n1, n2, n3⟩ := ih (i + 1) f h2 (H1.fr l2) (C1.ft V l2.t2) (k3'.fr l2 (Or.inl (by omega))) (fun p hp q hq => by
        rw [l3 p hp q hq, e44, hT p hp q hq, hh p q, ev]
        by_cases hc : q = v ∧ ¬ itP (zT σ) (zY σ) (i + 1) 3 p = -1
        · rw [if_pos hc, if_pos ⟨hc.2, by rw [hc.1]⟩, nI_1]
        · rw [if_neg hc, if_neg (fun z => hc ⟨((nI_eq (by omega) (by omega)).mp z.2).symm, z.1⟩), Nat.add_zero]) (by omega) (by omega)
      exact ⟨h', n1, (k2.t1.trans l2.t2).trans n2, n3⟩
theorem c_th (V : VI σ) {h : AH} (H : Lo h) (C : CI h σ) {n d : Nat} (hn : n ≤ 20) (hd : d ≤ 999) (gd : Gd (zT σ) (zY σ) d) : ∃ h', F_X4_tallyHits h 0 (nI n) = some h' ∧ Ft h h' ∧ HT h' (zT σ) (zY σ) d n := by
  have v1 := V.1.1.1
  have e1 : F_J7_fill_53178 h 44 0 = some (sA h 44 (fun j => if j < 64 then 0 else hI h 44 j)) := fill_ok H (by decide) (by decide) (by decide)
  have F1 : Fr h (sA h 44 (fun j => if j < 64 then 0 else hI h 44 j)) 44 45 := (Fr.refl h _ _).sA (by omega) (by omega)
  have H1 := H.fr F1
  have C1 := C.ft V F1.t2
  have z44 : ∀ j, j < 64 → hI (sA h 44 (fun j => if j < 64 then 0 else hI h 44 j)) 44 j = 0 := fun j hj => by
    rw [hI_sA, if_pos rfl, if_pos hj]
  generalize hg : sA h 44 (fun j => if j < 64 then 0 else hI h 44 j) = h1 at e1 F1 H1 C1 z44
  obtain ⟨h2, k1, k2, k3⟩ := c_copy H1 yo_27 yo_17 (by decide) V.1.1 C1.2.1 V.2.1.2.1
  obtain ⟨h', n1, n2, n3⟩ := c_th_loop (kk := fun h10 _ => some h10) V hn hd gd n 0 FU h2 (H1.fr k2) (C1.fore V k2) k3 (fun p hp q hq => by
    rw [k2.2.2.2 44 (by omega), z44 _ (by omega)]
    rfl) (by omega) (by unfold FU; omega)
  refine ⟨h', ?_, (F1.t2.trans k2.t1).trans n2, n3⟩
  rw [nI_0] at n1
  unfold F_X4_tallyHits
  rw [o0_ck H, Option.bind_some, o0_R10 H, Option.bind_some, e1, Option.bind_some, o0_R4 H1, Option.bind_some, o0_R3 H1, Option.bind_some, k1, Option.bind_some, n1]
theorem sub3 (x c d : Nat) : nI x - nI c - nI d = nI x - nI (c + d) := by
  rw [← nI_add, Int32.sub_eq_add_neg, Int32.sub_eq_add_neg, Int32.sub_eq_add_neg, Int32.neg_add, Int32.add_assoc, Int32.sub_eq_add_neg]
theorem c_gain (V : VI σ) {h : AH} (H : Lo h) (C : CI h σ) {n d : Nat} (hT : HT h (zT σ) (zY σ) d n) {p q : Nat} (hp : p < tP (zT σ)) (hq : q < tP (zT σ)) : F_X4_gainOfMove h 0 (nI p) (nI q) = some (nI (trA (zT σ) (zY σ) d n p q) - nI (trB (zT σ) (zY σ) d n p q)) := by
  have v1 := V.1.1.1
  obtain ⟨⟨mp, hmp, emp⟩, -⟩ := V.2.1.2.2.1 p hp
  obtain ⟨⟨mq, hmq, emq⟩, -⟩ := V.2.1.2.2.1 q hq
  have e1 : hI h (17 + 1) p = nI mp := ((C.2.1.2.1 p hp).1).trans emp
  have e2 : hI h (17 + 1) q = nI mq := ((C.2.1.2.1 q hq).1).trans emq
  unfold F_X4_gainOfMove F_X4_hitIndex
  simp only [o0_ck H, o0_R3 H, o0_R10 H, y_R0 H yo_17, y_ld1 H yo_17 (show p < 8 by omega), y_ld1 H yo_17 (show q < 8 by omega), Option.bind_some, e1, e2, ar_8, o44_ld H (show p * 8 + mq < 64 by omega), o44_ld H (show q * 8 + mp < 64 by omega), o44_ld H (show p * 8 + mp < 64 by omega), o44_ld H (show q * 8 + mq < 64 by omega), hT p hp mq (by omega), hT q hq mp (by omega), hT p hp mp (by omega), hT q hq mq (by omega), nI_add]
  rw [sub3]
  unfold trA trB
  rw [emp, emq]
/-- the better exchange so far, and what it gains -/
def trI (A B : Nat → Nat → Nat) (p : Nat) : Nat → Nat → Int32 × Nat → Int32 × Nat
  | 0, _, s => s
  | m + 1, j, s => trI A B p m (j + 1) (if A p j ≤ B p j + s.2 then s else (10 * nI p + nI j, A p j - B p j))
def trO (A B : Nat → Nat → Nat) (np : Nat) : Nat → Nat → Int32 × Nat → Int32 × Nat
  | 0, _, s => s
  | m + 1, i, s => trO A B np m (i + 1) (trI A B i (np - (i + 1)) (i + 1) s)
theorem trI_le {A B : Nat → Nat → Nat} (hA : ∀ p q, A p q ≤ 100) (p : Nat) : ∀ m j s, s.2 ≤ 100 → (trI A B p m j s).2 ≤ 100 := by
  intro m
  induction m with
  | zero => intro j s hs; exact hs
  | succ m ih =>
    intro j s hs
    unfold trI
    refine ih _ _ ?_
    split
    · exact hs
    · have := hA p j
      show A p j - B p j ≤ 100
      omega
theorem gain_iff {a b g : Nat} (ha : a ≤ 100) (hb : b ≤ 100) (hg : g ≤ 100) : (nI a - nI b ≤ nI g) ↔ a ≤ b + g := by
  rw [Int32.le_iff_toInt_le, pk_sub_toInt (by omega) (by omega), nI_toInt (by omega)]
  omega
theorem c_trI_loop (V : VI σ) {h : AH} (H : Lo h) (C : CI h σ) {n d : Nat} (hn : n ≤ 20) (hT : HT h (zT σ) (zY σ) d n) {p : Nat} (hp : p < tP (zT σ)) {x1 : Int32} {β : Type} {kk : Int32 → Int32 → Int32 → Option β} : ∀ (m j f : Nat) (s : Int32 × Nat), s.2 ≤ 100 → j + m = tP (zT σ) → m < f → L_X4_trough_44 h 0 x1 (nI p) kk f s.1 (nI s.2) (nI j) = kk (trI (trA (zT σ) (zY σ) d n) (trB (zT σ) (zY σ) d n) p m j s).1 (nI (trI (trA (zT σ) (zY σ) d n) (trB (zT σ) (zY σ) d n) p m j s).2) (nI (tP (zT σ))) := by
  have v1 := V.1.1.1
  intro m
  induction m with
  | zero =>
    intro j f s hs e hf
    obtain ⟨f, rfl⟩ : ∃ g, f = g + 1 := ⟨f - 1, by omega⟩
    have hj : j = tP (zT σ) := by omega
    subst hj
    conv => lhs; unfold L_X4_trough_44
    rw [o0_R1 H, Option.bind_some, t_gI H to_3, Option.bind_some, C.1.1, if_pos (nI_le (Nat.le_refl _) (by omega))]
    rfl
  | succ m ih =>
    intro j f s hs e hf
    obtain ⟨f, rfl⟩ : ∃ g, f = g + 1 := ⟨f - 1, by omega⟩
    have hA : trA (zT σ) (zY σ) d n p j ≤ 100 := by
      unfold trA
      have := ht_le (zT σ) (zY σ) d p (zY σ 1 j) n
      have := ht_le (zT σ) (zY σ) d j (zY σ 1 p) n
      omega
    have hB : trB (zT σ) (zY σ) d n p j ≤ 100 := by
      unfold trB
      have := ht_le (zT σ) (zY σ) d p (zY σ 1 p) n
      have := ht_le (zT σ) (zY σ) d j (zY σ 1 j) n
      omega
    have gi := gain_iff hA hB hs
    conv => lhs; unfold L_X4_trough_44
    rw [o0_R1 H, Option.bind_some, t_gI H to_3, Option.bind_some, C.1.1, if_neg (nI_ge (by omega) (by omega)), c_gain V H C hT hp (show j < tP (zT σ) by omega), Option.bind_some, nI_1]
    unfold trI
    by_cases hc : trA (zT σ) (zY σ) d n p j ≤ trB (zT σ) (zY σ) d n p j + s.2
    · rw [if_pos (gi.mpr hc), if_pos hc, Option.bind_some]
      exact ih (j + 1) f s hs (by omega) (by omega)
    · rw [if_neg (fun z => hc (gi.mp z)), if_neg hc, Option.bind_some, pk_sub (by omega)]
      exact ih (j + 1) f (10 * nI p + nI j, trA (zT σ) (zY σ) d n p j - trB (zT σ) (zY σ) d n p j) (by show _ - _ ≤ 100; omega) (by omega) (by omega)
theorem tr_bd (τ : TT) (y : YT) (d : Nat) {n : Nat} (hn : n ≤ 20) : ∀ p q, trA τ y d n p q ≤ 100 := fun p q => by
  unfold trA
  have := ht_le τ y d p (y 1 q) n
  have := ht_le τ y d q (y 1 p) n
  omega
theorem c_trO_loop (V : VI σ) {h : AH} (H : Lo h) (C : CI h σ) {n d : Nat} (hn : n ≤ 20) (hT : HT h (zT σ) (zY σ) d n) {x1 : Int32} : ∀ (m i f : Nat) (s : Int32 × Nat), s.2 ≤ 100 → i + m = tP (zT σ) → m < f → L_X4_trough_26 h 0 x1 (fun y8 _ _ => some (y8, h)) f s.1 (nI s.2) (nI i) = some ((trO (trA (zT σ) (zY σ) d n) (trB (zT σ) (zY σ) d n) (tP (zT σ)) m i s).1, h) := by
  have v1 := V.1.1.1
  intro m
  induction m with
  | zero =>
    intro i f s hs e hf
    obtain ⟨f, rfl⟩ : ∃ g, f = g + 1 := ⟨f - 1, by omega⟩
    have hj : i = tP (zT σ) := by omega
    subst hj
    conv => lhs; unfold L_X4_trough_26
    rw [o0_R1 H, Option.bind_some, t_gI H to_3, Option.bind_some, C.1.1, if_pos (nI_le (Nat.le_refl _) (by omega))]
    rfl
  | succ m ih =>
    intro i f s hs e hf
    obtain ⟨f, rfl⟩ : ∃ g, f = g + 1 := ⟨f - 1, by omega⟩
    conv => lhs; unfold L_X4_trough_26
    rw [o0_R1 H, Option.bind_some, t_gI H to_3, Option.bind_some, C.1.1, if_neg (nI_ge (by omega) (by omega)), nI_1, c_trI_loop V H C hn hT (show i < tP (zT σ) by omega) (tP (zT σ) - (i + 1)) (i + 1) FU s hs (by omega) (by unfold FU; omega)]
    exact ih (i + 1) f _ (trI_le (tr_bd _ _ d hn) i _ _ _ hs) (by omega) (by omega)
theorem r_ra_loop {h : AH} {τ : TT} {w : YT} {β : Type} {kk : Int32 → Int32 → Option β} (H : Lo h) (R : RY τ (hI h 157) w) : ∀ (m i f : Nat), i + m = 5 → m < f → L_X5_rightsOfAll_4 h 145 157 kk f (smP (w 8) i) (nI i) = kk (smP (w 8) 5) (nI 5) := by
  intro m
  induction m with
  | zero =>
    intro i f e hf
    obtain ⟨f, rfl⟩ : ∃ g, f = g + 1 := ⟨f - 1, by omega⟩
    have hj : i = 5 := by omega
    subst hj
    conv => lhs; unfold L_X5_rightsOfAll_4
    rw [if_pos (by decide)]
  | succ m ih =>
    intro i f e hf
    obtain ⟨f, rfl⟩ : ∃ g, f = g + 1 := ⟨f - 1, by omega⟩
    have h5 : ¬ (5 : Int32) ≤ nI i := nI_ge (b := 5) (by omega) (by omega)
    conv => lhs; unfold L_X5_rightsOfAll_4
    rw [if_neg h5, al_39, o157_ld H (by omega), Option.bind_some, (R.2.2.2 i (by omega)).2.1, nI_1]
    exact ih (i + 1) f (by omega) (by omega)
theorem r_ra {h : AH} {τ : TT} {w : YT} (H : Lo h) (R : RY τ (hI h 157) w) : F_X5_rightsOfAll h 145 157 = some (smP (w 8) 5) := by
  unfold F_X5_rightsOfAll
  rw [o145_ck H, Option.bind_some]
  exact r_ra_loop H R 5 0 FU (by omega) (by unfold FU; omega)
theorem Gd.mv {τ : TT} {y : YT} {d : Nat} (g : Gd τ y d) (p q : Nat) : Gd τ (mvP y p q) d := by
  obtain ⟨i0, i2, -, -, i6, -⟩ := Ind.mv y p q
  unfold Gd
  rw [i0, i2, i6]
  exact g
theorem RK.mv {τ : TT} {h : AH} {y : YT} (K : RK τ h y) (p q : Nat) : RK τ h (mvP y p q) := by
  obtain ⟨-, -, -, i5, i6, -⟩ := Ind.mv y p q
  unfold RK
  rw [i5, i6]
  exact K
theorem r_trI_loop (V : VI σ) {n d s0 : Nat} (hn : n ≤ 20) (hd : d ≤ 999) (gd : Gd (zT σ) (zY σ) d) (hs0 : s0 ≤ 10000) (es0 : smP (zY σ 8) 5 = nI s0) {p : Nat} (hp : p < tP (zT σ)) {β : Type} {kk : AH → Int32 → Int32 → Int32 → Option β} : ∀ (m j f : Nat) (h : AH) (s : Int32 × Nat), Lo h → RT h (zT σ) → RK (zT σ) h (zY σ) → RY (zT σ) (hI h 148) (zY σ) → s.2 ≤ 100 → p < j → j + m = tP (zT σ) → m < f → ∃ h', L_X5_trough_59 145 (nI n) (nI p) kk f h (nI (s0 + toP (zT σ) (zY σ) d n + s.2)) s.1 (nI j) = kk h' (nI (s0 + toP (zT σ) (zY σ) d n + (trI (trA (zT σ) (zY σ) d n) (trB (zT σ) (zY σ) d n) p m j s).2)) (trI (trA (zT σ) (zY σ) d n) (trB (zT σ) (zY σ) d n) p m j s).1 (nI (tP (zT σ))) ∧ Fs h h' [156, 157] := by
  have v1 := V.1.1.1
  intro m
  induction m with
  | zero =>
    intro j f h s H T K R hs hpj e hf
    obtain ⟨f, rfl⟩ : ∃ g, f = g + 1 := ⟨f - 1, by omega⟩
    have hj : j = tP (zT σ) := by omega
    subst hj
    refine ⟨h, ?_, Fs.refl _ _⟩
    conv => lhs; unfold L_X5_trough_59
    rw [o145_R0 H, Option.bind_some, o146_l0 H, Option.bind_some, T.1, if_pos (nI_le (Nat.le_refl _) (by omega))]
    rfl
  | succ m ih =>
    intro j f h s H T K R hs hpj e hf
    obtain ⟨f, rfl⟩ : ∃ g, f = g + 1 := ⟨f - 1, by omega⟩
    have hj : j < tP (zT σ) := by omega
    obtain ⟨h1, a1, a2, a3⟩ := r_layAside H V.1.1 R
    have H1 := H.fs a2
    obtain ⟨h2, b1, b2, b3⟩ := r_moves H1 ro_157 V.1.1 a3 hp hj
    have H2 := H1.fs b2
    have F2 : Fs h h2 [156, 157] := (a2.wide (by decide)).trans (b2.wide (by decide))
    obtain ⟨h3, c1, c2, c3, -⟩ := r_go (n := n) H2 V.1.1 (T.fs F2 (by decide)) ((K.fs F2 (by decide) (by decide)).mv p j) (gd.mv p j) (by omega) (by omega) b3
    have H3 := H2.fs c2
    have F3 : Fs h h3 [156, 157] := F2.trans (c2.wide (by decide))
    have hsum := (it_sum V.1.1 (mvP (zY σ) p j) (d := d) (by omega) ((gd.mv p j).2.2.1) n (by omega)).2
    have e8 : mvP (zY σ) p j 8 = zY σ 8 := by
      funext c
      unfold mvP
      rw [up2_ne (by omega), up2_ne (by omega)]
    rw [e8, es0, nI_add] at hsum
    have hm := to_mv (τ := zT σ) (y := zY σ) (d := d) (n := n) hp hj (by omega)
    have hA := tr_bd (zT σ) (zY σ) d hn p j
    have hB : trB (zT σ) (zY σ) d n p j ≤ 100 := by
      unfold trB
      have := ht_le (zT σ) (zY σ) d p (zY σ 1 p) n
      have := ht_le (zT σ) (zY σ) d j (zY σ 1 j) n
      omega
    have hto : toP (zT σ) (zY σ) d n ≤ 1000 := by
      have := nsm_le (f := fun p => htP (zT σ) (zY σ) d p (zY σ 1 p) n) (b := 20) (fun i => Nat.le_trans (ht_le _ _ _ _ _ _) hn) (tP (zT σ))
      unfold toP
      omega
    have hle : (nI (s0 + toP (zT σ) (mvP (zY σ) p j) d n) ≤ nI (s0 + toP (zT σ) (zY σ) d n + s.2)) ↔ trA (zT σ) (zY σ) d n p j ≤ trB (zT σ) (zY σ) d n p j + s.2 := by
      rw [nI_leI (by omega) (by omega)]
      omega
    have step : L_X5_trough_59 145 (nI n) (nI p) kk (f + 1) h (nI (s0 + toP (zT σ) (zY σ) d n + s.2)) s.1 (nI j) = Option.bind (α := Int32) (if nI (s0 + toP (zT σ) (mvP (zY σ) p j) d n) ≤ nI (s0 + toP (zT σ) (zY σ) d n + s.2) then some s.1 else some (10 * nI p + nI j)) fun q9 => Option.bind (α := Int32) (if nI (s0 + toP (zT σ) (mvP (zY σ) p j) d n) ≤ nI (s0 + toP (zT σ) (zY σ) d n + s.2) then some (nI (s0 + toP (zT σ) (zY σ) d n + s.2)) else some (nI (s0 + toP (zT σ) (mvP (zY σ) p j) d n))) fun q10 => L_X5_trough_59 145 (nI n) (nI p) kk f h3 q10 q9 (nI (j + 1)) := by
      conv => lhs; unfold L_X5_trough_59
      rw [o145_R0 H, Option.bind_some, o146_l0 H, Option.bind_some, T.1, if_neg (nI_ge (by omega) (by omega)), a1, Option.bind_some, o145_R20 H1, Option.bind_some, b1, Option.bind_some, c1, Option.bind_some, o145_R20 H3, Option.bind_some, r_ra H3 c3, Option.bind_some, hsum, nI_1]
    rw [step]
    unfold trI
    by_cases hc : trA (zT σ) (zY σ) d n p j ≤ trB (zT σ) (zY σ) d n p j + s.2
    · rw [if_pos (hle.mpr hc), if_pos (hle.mpr hc), if_pos hc, Option.bind_some, Option.bind_some]
      obtain ⟨h', n1, n2⟩ := ih (j + 1) f h3 s H3 (T.fs F3 (by decide)) (K.fs F3 (by decide) (by decide)) (by rw [F3.2.2.2 148 (by decide)]; exact R) hs (by omega) (by omega) (by omega)
      exact ⟨h', n1, F3.trans n2⟩
    · rw [if_neg (fun z => hc (hle.mp z)), if_neg (fun z => hc (hle.mp z)), if_neg hc, Option.bind_some, Option.bind_some]
      obtain ⟨h', n1, n2⟩ := ih (j + 1) f h3 (10 * nI p + nI j, trA (zT σ) (zY σ) d n p j - trB (zT σ) (zY σ) d n p j) H3 (T.fs F3 (by decide)) (K.fs F3 (by decide) (by decide)) (by rw [F3.2.2.2 148 (by decide)]; exact R) (by show _ - _ ≤ 100; omega) (by omega) (by omega) (by omega)
      have ee : s0 + toP (zT σ) (zY σ) d n + (10 * nI p + nI j, trA (zT σ) (zY σ) d n p j - trB (zT σ) (zY σ) d n p j).2 = s0 + toP (zT σ) (mvP (zY σ) p j) d n := by
        show s0 + toP (zT σ) (zY σ) d n + (trA (zT σ) (zY σ) d n p j - trB (zT σ) (zY σ) d n p j) = _
        omega
      rw [ee] at n1
      exact ⟨h', n1, F3.trans n2⟩
theorem r_trO_loop (V : VI σ) {n d s0 : Nat} (hn : n ≤ 20) (hd : d ≤ 999) (gd : Gd (zT σ) (zY σ) d) (hs0 : s0 ≤ 10000) (es0 : smP (zY σ 8) 5 = nI s0) : ∀ (m i f : Nat) (h : AH) (s : Int32 × Nat), Lo h → RT h (zT σ) → RK (zT σ) h (zY σ) → RY (zT σ) (hI h 148) (zY σ) → s.2 ≤ 100 → i + m = tP (zT σ) → m < f → ∃ h', L_X5_trough_42 145 (nI n) (fun h15 _ y17 _ => some (y17, h15)) f h (nI (s0 + toP (zT σ) (zY σ) d n + s.2)) s.1 (nI i) = some ((trO (trA (zT σ) (zY σ) d n) (trB (zT σ) (zY σ) d n) (tP (zT σ)) m i s).1, h') ∧ Fs h h' [156, 157] := by
  have v1 := V.1.1.1
  intro m
  induction m with
  | zero =>
    intro i f h s H T K R hs e hf
    obtain ⟨f, rfl⟩ : ∃ g, f = g + 1 := ⟨f - 1, by omega⟩
    have hj : i = tP (zT σ) := by omega
    subst hj
    refine ⟨h, ?_, Fs.refl _ _⟩
    conv => lhs; unfold L_X5_trough_42
    rw [o145_R0 H, Option.bind_some, o146_l0 H, Option.bind_some, T.1, if_pos (nI_le (Nat.le_refl _) (by omega))]
    rfl
  | succ m ih =>
    intro i f h s H T K R hs e hf
    obtain ⟨f, rfl⟩ : ∃ g, f = g + 1 := ⟨f - 1, by omega⟩
    obtain ⟨h1, k1, k2⟩ := r_trI_loop (kk := fun h11 y12 y13 _ => L_X5_trough_42 145 (nI n) (fun h15 _ y17 _ => some (y17, h15)) f h11 y12 y13 (nI (i + 1))) V hn hd gd hs0 es0 (show i < tP (zT σ) by omega) (tP (zT σ) - (i + 1)) (i + 1) FU h s H T K R hs (by omega) (by omega) (by unfold FU; omega)
    obtain ⟨h', n1, n2⟩ := ih (i + 1) f h1 (trI (trA (zT σ) (zY σ) d n) (trB (zT σ) (zY σ) d n) i (tP (zT σ) - (i + 1)) (i + 1) s) (H.fs k2) (T.fs k2 (by decide)) (K.fs k2 (by decide) (by decide)) (by rw [k2.2.2.2 148 (by decide)]; exact R) (trI_le (tr_bd _ _ d hn) i _ _ _ hs) (by omega) (by omega)
    refine ⟨h', ?_, k2.trans n2⟩
    conv => lhs; unfold L_X5_trough_42
    rw [o145_R0 H, Option.bind_some, o146_l0 H, Option.bind_some, T.1, if_neg (nI_ge (by omega) (by omega)), nI_1, k1]
    exact n1
theorem op_trough (V : VI σ) (a : Int32) : Op (fun h => F_X4_trough h 0 a) (fun h => F_X5_trough h 145 a) σ := by
  have v1 := V.1.1.1
  have q10 : ¬ (1 : Int32) = 0 := by decide
  have ea : ((1 : Int32) ≤ a ∧ a ≤ 20) ↔ (¬ a < 1 ∧ a ≤ 20) := by
    simp only [Int32.le_iff_toInt_le, Int32.lt_iff_toInt_lt]
    omega
  by_cases ha : ¬ a < 1 ∧ a ≤ 20
  · obtain ⟨n, hn1, hn, rfl⟩ := nrange (lo := 1) (hi := 20) rfl rfl (by omega) (by omega) ha.1 ha.2
    obtain ⟨d, hd, gd⟩ := Gd.of V.1 V.2.1
    obtain ⟨s0, hs0, es0⟩ := smP_nI (f := zY σ 8) (b := 999) 5 (fun i hi => by
      obtain ⟨r, hr, er⟩ := V.2.1.2.2.2.2 i hi
      rw [gd.2.2.1, nI_clamp (by omega)] at hr
      exact ⟨r, by omega, er⟩)
    refine Op.fore2 (trO (trA (zT σ) (zY σ) d n) (trB (zT σ) (zY σ) d n) (tP (zT σ)) (tP (zT σ)) 0 (-1, 0)).1 V (fun h H C => ?_) (fun h H R => ?_)
    · obtain ⟨h1, k1, k2, k3⟩ := c_th V H C hn hd gd
      have L := c_trO_loop (x1 := nI n) V (H.ft k2) (C.ft V k2) hn k3 (tP (zT σ)) 0 FU (-1, 0) (by show 0 ≤ 100; omega) (by omega) (by unfold FU; omega)
      refine ⟨h1, ?_, k2⟩
      unfold F_X4_trough
      simp only [o0_ck H, Option.bind_some, ha.1, ha.2, if_false, if_true, k1]
      exact L
    · obtain ⟨h1, h2, h3, a1, b1, c1, H3, f3, r3, r4, t3, -⟩ := r_fore H V R (show n ≤ 60 by omega)
      have hsum := (it_sum V.1.1 (zY σ) (d := d) (by omega) gd.2.2.1 n (by omega)).2
      rw [es0, nI_add] at hsum
      have K3 : RK (zT σ) h3 (zY σ) := by
        obtain ⟨h1', a1', a2', a3'⟩ := r_asTold (y := zY σ) H V.1.1 R.1 V.2.1.2.2.2.1
        rw [a1] at a1'
        cases a1'
        obtain ⟨h2', b1', b2', b3'⟩ := r_layAside (h := h1) (y := zY σ) (τ := zT σ) (H.fs a2') V.1.1 (by rw [a2'.2.2.2 148 (by decide)]; exact R.2.1)
        rw [b1] at b1'
        cases b1'
        obtain ⟨h3', c1', c2', -, -⟩ := r_go (n := n) ((H.fs a2').fs b2') V.1.1 ((R.1.fs a2' (by decide)).fs b2' (by decide)) (a3'.fs b2' (by decide) (by decide)) gd (by omega) (by omega) b3'
        rw [c1] at c1'
        cases c1'
        exact (a3'.fs b2' (by decide) (by decide)).fs c2' (by decide) (by decide)
      obtain ⟨h', n1, n2⟩ := r_trO_loop V hn hd gd (by omega) es0 (tP (zT σ)) 0 FU h3 (-1, 0) H3 t3 K3 r4 (by show 0 ≤ 100; omega) (by omega) (by unfold FU; omega)
      have z0 : s0 + toP (zT σ) (zY σ) d n + ((-1, 0) : Int32 × Nat).2 = s0 + toP (zT σ) (zY σ) d n := rfl
      rw [z0, nI_0] at n1
      refine ⟨h', ?_, f3.trans (n2.wide (by decide))⟩
      unfold F_X5_trough
      simp only [o145_ck H, Option.bind_some, in_ok h (nI n) 1 20 1 20 (by decide) (by decide), if_pos (ea.mpr ha), q10, not_false_eq_true, if_true, a1, b1, c1, o145_R20 H3, r_ra H3 r3, hsum]
      exact n1
  · refine Op.const (-3) V (fun h H C => ?_) (fun h H R => ?_)
    · unfold F_X4_trough
      by_cases h0 : a < 1
      · simp only [o0_ck H, Option.bind_some, h0, if_true]
      · have h4 : ¬ a ≤ 20 := fun z => ha ⟨h0, z⟩
        simp only [o0_ck H, Option.bind_some, h0, h4, if_false]
    · unfold F_X5_trough
      simp only [o145_ck H, Option.bind_some, in_ok h a 1 20 1 20 (by decide) (by decide), if_neg (fun z => ha (ea.mp z)), not_true_eq_false, if_false]
end TROUGH
