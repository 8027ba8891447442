/-! words and numbers of THE TEXT -/
def stC (i j : Nat) : Int32 := (stB.getD i []).getD j 0
def sN0 (i j : Nat) : Nat := (stC i j).toNatClampNeg
def stW : List Nat := [2036429412, 1667329133, 482854658917, 1852143475, 465491813746, 108243635364985, 123649632527732, 426953502305]
def eqB (X : Nat → Int32) (b i : Nat) : Nat → Bool
  | 0 => true
  | j + 1 => eqB X b i j && decide (X (b + j) = stC i j)
def rdB (X : Nat → Int32) (b e i : Nat) : Bool := decide (e - b = stL.getD i 0) && eqB X b i (stL.getD i 0)
def enc (c : Nat → Nat) : Nat → Nat
  | 0 => 0
  | j + 1 => enc c j * 256 + c j
theorem enc_lt {c : Nat → Nat} : ∀ n, (∀ j, j < n → c j < 256) → enc c n < 256 ^ n := by
  intro n
  induction n with
  | zero => intro _; exact Nat.one_pos
  | succ n ih =>
    intro h
    have h1 := ih (fun j hj => h j (by omega))
    have h2 := h n (by omega)
    unfold enc
    rw [Nat.pow_succ]
    omega
theorem enc_inj {c d : Nat → Nat} : ∀ n m, (∀ j, j < n → 0 < c j ∧ c j < 256) → (∀ j, j < m → 0 < d j ∧ d j < 256) → enc c n = enc d m → n = m ∧ ∀ j, j < n → c j = d j := by
  intro n
  induction n with
  | zero =>
    intro m hc hd e
    cases m with
    | zero => exact ⟨rfl, fun j hj => absurd hj (Nat.not_lt_zero j)⟩
    | succ m =>
      have := hd m (by omega)
      unfold enc at e
      omega
  | succ n ih =>
    intro m hc hd e
    cases m with
    | zero =>
      have := hc n (by omega)
      unfold enc at e
      omega
    | succ m =>
      have h1 := hc n (by omega)
      have h2 := hd m (by omega)
      unfold enc at e
      have e1 : enc c n = enc d m := by omega
      have e2 : c n = d m := by omega
      obtain ⟨i1, i2⟩ := ih m (fun j hj => hc j (by omega)) (fun j hj => hd j (by omega)) e1
      subst i1
      refine ⟨rfl, fun j hj => ?_⟩
      by_cases hjn : j = n
      · subst hjn; exact e2
      · exact i2 j (by omega)
theorem enc_congr {c d : Nat → Nat} : ∀ n, (∀ j, j < n → c j = d j) → enc c n = enc d n := by
  intro n
  induction n with
  | zero => intro _; rfl
  | succ n ih => intro h; unfold enc; rw [ih (fun j hj => h j (by omega)), h n (by omega)]
theorem st_enc : ∀ i, i < 8 → enc (sN0 i) (stL.getD i 0) = stW.getD i 0 ∧ stW.getD i 0 < 2 ^ 60 ∧ 0 < stL.getD i 0 ∧ stL.getD i 0 ≤ 6 ∧ smB (stC i 0) = true := by decide
theorem st_dig : ∀ i, i < 8 → ∀ j, j < stL.getD i 0 → 0 < sN0 i j ∧ sN0 i j < 256 ∧ stC i j = nI (sN0 i j) := by decide
theorem st_uniq : ∀ i, i < 8 → ∀ k, k < 8 → stW.getD i 0 = stW.getD k 0 → i = k := by decide
theorem sm_nI {v : Int32} (h : smB v = true) : ∃ c, 97 ≤ c ∧ c ≤ 122 ∧ v = nI c := by
  have h := of_decide_eq_true h
  obtain ⟨c, h1, h2, h3⟩ := nrange (lo := 97) (hi := 122) rfl rfl (by omega) (by omega) h.1 ((nltI _ _).mp h.2)
  exact ⟨c, h1, h2, h3⟩
theorem dg_nI {v : Int32} (h : dgB v = true) : ∃ c, 48 ≤ c ∧ c ≤ 57 ∧ v = nI c := by
  have h := of_decide_eq_true h
  obtain ⟨c, h1, h2, h3⟩ := nrange (lo := 48) (hi := 57) rfl rfl (by omega) (by omega) h.1 ((nltI _ _).mp h.2)
  exact ⟨c, h1, h2, h3⟩
theorem wd_enc {X : Nat → Int32} {b : Nat} {c : Nat → Nat} : ∀ n, n ≤ 7 → (∀ j, j < n → X (b + j) = nI (c j) ∧ c j < 256) → wdP X b n = lN (enc c n) := by
  intro n
  induction n with
  | zero => intro _ _; rfl
  | succ n ih =>
    intro hn h
    obtain ⟨h1, h2⟩ := h n (by omega)
    have e256 : (256 : Int64) = lN 256 := rfl
    unfold wdP enc
    rw [if_neg (by omega), ih (by omega) (fun j hj => h j (by omega)), h1, nI_l (by omega), e256, lN_mul, lN_add]
theorem wd_long {X : Nat → Int32} {b : Nat} : ∀ n, 8 ≤ n → wdP X b n = -1 := by
  intro n hn
  obtain ⟨m, rfl⟩ : ∃ m, n = m + 1 := ⟨n - 1, by omega⟩
  unfold wdP
  rw [if_pos (by omega)]
theorem eqB_iff {X : Nat → Int32} {b i : Nat} : ∀ n, eqB X b i n = true ↔ ∀ j, j < n → X (b + j) = stC i j := by
  intro n
  induction n with
  | zero => exact ⟨fun _ j hj => absurd hj (Nat.not_lt_zero j), fun _ => rfl⟩
  | succ n ih =>
    unfold eqB
    rw [Bool.and_eq_true, ih, decide_eq_true_eq]
    constructor
    · rintro ⟨h1, h2⟩ j hj
      by_cases hjn : j = n
      · subst hjn; exact h2
      · exact h1 j (by omega)
    · intro h
      exact ⟨fun j hj => h j (by omega), h n (by omega)⟩
theorem m1_lN {n : Nat} (h : n < 2 ^ 60) : ¬ (-1 : Int64) = lN n := by
  intro z
  have z2 := congrArg Int64.toInt z
  rw [pk_lT (by omega)] at z2
  have : (-1 : Int64).toInt = -1 := by decide
  omega
/-- a token of small letters is the i-th word just if its number is that word's -/
theorem wd_iff {X : Nat → Int32} {b n i : Nat} (hi : i < 8) (hs : ∀ j, j < n → smB (X (b + j)) = true) : wdP X b n = lN (stW.getD i 0) ↔ (n = stL.getD i 0 ∧ eqB X b i (stL.getD i 0) = true) := by
  obtain ⟨s1, s2, s3, s4, s5⟩ := st_enc i hi
  have sd := st_dig i hi
  constructor
  · intro h
    by_cases hn : n ≤ 7
    · have hc : ∀ j, j < n → X (b + j) = nI ((X (b + j)).toNatClampNeg) ∧ 0 < (X (b + j)).toNatClampNeg ∧ (X (b + j)).toNatClampNeg < 256 := by
        intro j hj
        obtain ⟨c, h1, h2, h3⟩ := sm_nI (hs j hj)
        rw [h3, nI_clamp (by omega)]
        exact ⟨rfl, by omega, by omega⟩
      rw [wd_enc (c := fun j => (X (b + j)).toNatClampNeg) n hn (fun j hj => ⟨(hc j hj).1, (hc j hj).2.2⟩)] at h
      have hlt := enc_lt (c := fun j => (X (b + j)).toNatClampNeg) n (fun j hj => (hc j hj).2.2)
      have hp : 256 ^ n ≤ 256 ^ 7 := Nat.pow_le_pow_right (by decide) hn
      have h256 : (256 : Nat) ^ 7 < 2 ^ 60 := by decide
      have e := (pk_lEQ (by omega) (by omega)).mp h
      rw [← s1] at e
      obtain ⟨i1, i2⟩ := enc_inj n (stL.getD i 0) (fun j hj => (hc j hj).2) (fun j hj => ⟨(sd j hj).1, (sd j hj).2.1⟩) e
      refine ⟨i1, (eqB_iff _).mpr (fun j hj => ?_)⟩
      rw [(hc j (by omega)).1, i2 j (by omega), ← (sd j hj).2.2]
    · rw [wd_long n (by omega)] at h
      exact absurd h (m1_lN s2)
  · rintro ⟨h1, h2⟩
    have h2 := (eqB_iff _).mp h2
    rw [h1, wd_enc (c := sN0 i) _ (by omega) (fun j hj => ⟨(h2 j hj).trans (sd j hj).2.2, (sd j hj).2.1⟩), s1]
theorem rdB_iff {X : Nat → Int32} {b e i : Nat} : rdB X b e i = true ↔ (e - b = stL.getD i 0 ∧ eqB X b i (stL.getD i 0) = true) := by
  unfold rdB
  rw [Bool.and_eq_true, decide_eq_true_eq]
theorem tk_sm {X : Nat → Int32} {l b : Nat} (h : tkP X l b = 1) : b < l ∧ smB (X b) = true ∧ ∀ j, j < tE X l b - b → smB (X (b + j)) = true := by
  unfold tkP at h
  split at h
  next hb =>
    split at h
    next hs =>
      refine ⟨hb, hs, fun j hj => ?_⟩
      by_cases hj0 : j = 0
      · subst hj0; exact hs
      · unfold tE at hj
        rw [if_pos hb, if_pos hs] at hj
        exact rn_all smB X (l - (b + 1)) (b + 1) (b + j) (by omega) (by omega)
    next =>
      exfalso
      revert h
      split
      · split <;> decide
      · split <;> decide
  next => exact absurd h (by decide)
/-- a token that is no word isn't one of the eight -/
theorem rd_no {X : Nat → Int32} {l b i : Nat} (hi : i < 8) (h : ¬ tkP X l b = 1) : rdB X b (tE X l b) i = false := by
  obtain ⟨s1, s2, s3, s4, s5⟩ := st_enc i hi
  cases hr : rdB X b (tE X l b) i with
  | false => rfl
  | true =>
    exfalso
    obtain ⟨h1, h2⟩ := rdB_iff.mp hr
    have h0 := (eqB_iff _).mp h2 0 (by omega)
    by_cases hb : b < l
    · refine h ?_
      unfold tkP
      have : smB (X b) = true := by
        have h0' : X b = stC i 0 := h0
        rw [h0']
        exact s5
      rw [if_pos hb, if_pos this]
    · have : tE X l b = b := by unfold tE; rw [if_neg hb]
      omega
theorem rd_yes {X : Nat → Int32} {l b i : Nat} (hi : i < 8) (h : tkP X l b = 1) : wdP X b (tE X l b - b) = lN (stW.getD i 0) ↔ rdB X b (tE X l b) i = true := by
  rw [wd_iff hi (tk_sm h).2.2, rdB_iff]
theorem rd_one {X : Nat → Int32} {l b i k : Nat} (hi : i < 8) (hk : k < 8) (h1 : rdB X b (tE X l b) i = true) (h2 : rdB X b (tE X l b) k = true) : i = k := by
  by_cases ht : tkP X l b = 1
  · have e1 := (rd_yes hi ht).mpr h1
    have e2 := (rd_yes hk ht).mpr h2
    have e := e1.symm.trans e2
    obtain ⟨-, b1, -⟩ := st_enc i hi
    obtain ⟨-, b2, -⟩ := st_enc k hk
    exact st_uniq i hi k hk ((pk_lEQ (by omega) (by omega)).mp e)
  · rw [rd_no hi ht] at h1
    cases h1
section WORDS
variable {l : Nat} {X : Nat → Int32}
theorem c_rd_loop {h : AH} (hl : l ≤ 160) (H : Lo h) (C : TextC h l X) {b i : Nat} (hi : i < 8) (e3 : hI h 1 3 = nI b) (hb : b + stL.getD i 0 ≤ l) : ∀ (m j f : Nat), j + m = stL.getD i 0 → m < f → eqB X b i j = true → L_X1_reads_20 h 1 i (fun _ => some 1) f (nI j) = some (bI (eqB X b i (stL.getD i 0))) := by
  have s4 := (st_enc i hi).2.2.2.1
  intro m
  induction m with
  | zero =>
    intro j f e hf ht
    obtain ⟨f, rfl⟩ : ∃ g, f = g + 1 := ⟨f - 1, by omega⟩
    have hj : j = stL.getD i 0 := by omega
    conv => lhs; unfold L_X1_reads_20
    rw [if_pos (nI_le (by omega) (by omega)), ← hj, ht]
    rfl
  | succ m ih =>
    intro j f e hf ht
    obtain ⟨f, rfl⟩ : ∃ g, f = g + 1 := ⟨f - 1, by omega⟩
    have hjl : j < stL.getD i 0 := by omega
    have ex : hI h 2 (b + j) = X (b + j) := C.2 _ (by omega)
    have es : sAt i (nI j) = some (stC i j) := by
      unfold sAt
      rw [if_pos (inB_nI hjl (by omega)), nI_clamp (by omega)]
      rfl
    have he : eqB X b i (j + 1) = (eqB X b i j && decide (X (b + j) = stC i j)) := rfl
    conv => lhs; unfold L_X1_reads_20
    rw [if_neg (nI_ge hjl (by omega)), o1_R0 H, Option.bind_some, o1_gI H, Option.bind_some, e3, nI_add, o2_ld H (by omega), Option.bind_some, ex, es, Option.bind_some, nI_1]
    by_cases hx : X (b + j) = stC i j
    · rw [if_pos hx]
      exact ih (j + 1) f (by omega) (by omega) (by rw [he, ht, decide_eq_true hx]; rfl)
    · rw [if_neg hx]
      have hf : eqB X b i (stL.getD i 0) = false := by
        cases hq : eqB X b i (stL.getD i 0) with
        | false => rfl
        | true => exact absurd ((eqB_iff _).mp hq j hjl) hx
      rw [hf]
      rfl
theorem c_rd {h : AH} (hl : l ≤ 160) (H : Lo h) (C : TextC h l X) {b e i : Nat} (hi : i < 8) (e3 : hI h 1 3 = nI b) (e4 : hI h 1 4 = nI e) (hbe : b ≤ e) (hel : e ≤ l) : F_X1_reads h 1 i = some (bI (rdB X b e i)) := by
  have s4 := (st_enc i hi).2.2.2.1
  unfold F_X1_reads
  rw [o1_ck H, Option.bind_some, o1_gI H, Option.bind_some, o1_gI H, Option.bind_some, e3, e4, pk_sub hbe]
  unfold rdB
  by_cases hn : e - b = stL.getD i 0
  · rw [if_pos (by rw [hn]), decide_eq_true hn, Bool.true_and]
    have := c_rd_loop hl H C hi e3 (show b + stL.getD i 0 ≤ l by omega) (stL.getD i 0) 0 FU (by omega) (by unfold FU; omega) rfl
    rw [nI_0] at this
    exact this
  · rw [if_neg (fun z => hn ((nI_eq (by omega) (by omega)).mp z)), decide_eq_false hn]
    rfl
/-- a number of one or two digits -/
theorem vl_nI {X : Nat → Int32} {b n : Nat} (hn : n ≤ 2) (hd : ∀ j, j < n → dgB (X (b + j)) = true) : ∃ v, v ≤ 99 ∧ vlP X b n = nI v := by
  have key : ∀ v c, v ≤ 9 → 48 ≤ c → c ≤ 57 → (10 : Int32) * nI v + nI c - 48 = nI (10 * v + (c - 48)) := by
    intro v c hv h1 h2
    have e1 : (10 : Int32) * nI v = nI (10 * v) := pk_mul 10 v
    have e2 : nI (10 * v + c) - 48 = nI (10 * v + c - 48) := pk_sub (a := 10 * v + c) (b := 48) (by omega)
    rw [e1, nI_add, e2]
    congr 1
    omega
  match n, hn, hd with
  | 0, _, _ => exact ⟨0, by omega, rfl⟩
  | 1, _, hd =>
    obtain ⟨c, h1, h2, h3⟩ := dg_nI (hd 0 (by omega))
    refine ⟨10 * 0 + (c - 48), by omega, ?_⟩
    show (if 2 ≤ 0 then (0 : Int32) else 10 * 0 + X (b + 0) - 48) = _
    rw [if_neg (by omega), h3]
    exact key 0 c (by omega) h1 h2
  | 2, _, hd =>
    obtain ⟨c, h1, h2, h3⟩ := dg_nI (hd 0 (by omega))
    obtain ⟨c', h1', h2', h3'⟩ := dg_nI (hd 1 (by omega))
    have e1 : vlP X b 1 = nI (10 * 0 + (c - 48)) := by
      show (if 2 ≤ 0 then (0 : Int32) else 10 * 0 + X (b + 0) - 48) = _
      rw [if_neg (by omega), h3]
      exact key 0 c (by omega) h1 h2
    refine ⟨10 * (10 * 0 + (c - 48)) + (c' - 48), by omega, ?_⟩
    show (if 2 ≤ 1 then vlP X b 1 else 10 * vlP X b 1 + X (b + 1) - 48) = _
    rw [if_neg (by omega), e1, h3']
    exact key _ c' (by omega) h1' h2'
theorem tk_dg {X : Nat → Int32} {l b : Nat} (h : tkP X l b = 2) : b < l ∧ smB (X b) = false ∧ dgB (X b) = true ∧ tE X l b - b ≤ 2 ∧ 1 ≤ tE X l b - b ∧ ∀ j, j < tE X l b - b → dgB (X (b + j)) = true := by
  unfold tkP at h
  split at h
  next hb =>
    split at h
    next => exact absurd h (by decide)
    next hs =>
      have hs : smB (X b) = false := by cases hz : smB (X b) with
        | false => rfl
        | true => exact absurd hz hs
      split at h
      next hd =>
        split at h
        next => exact absurd h (by decide)
        next h2 =>
          have et : tE X l b = rnP dgB X (l - (b + 1)) (b + 1) := by unfold tE; rw [if_pos hb, if_neg (by rw [hs]; decide), if_pos hd]
          have := rn_le dgB X (l - (b + 1)) (b + 1)
          refine ⟨hb, hs, hd, by omega, by omega, fun j hj => ?_⟩
          by_cases hj0 : j = 0
          · subst hj0; exact hd
          · rw [et] at hj
            exact rn_all dgB X (l - (b + 1)) (b + 1) (b + j) (by omega) (by omega)
      next =>
        exfalso
        revert h
        split <;> decide
  next => exact absurd h (by decide)
def nOK (X : Nat → Int32) (l pos M : Nat) : Prop := tkP X l (tB X l pos) = 2 ∧ ¬ nI M < vlP X (tB X l pos) (tE X l (tB X l pos) - tB X l pos)
def nVl (X : Nat → Int32) (l pos : Nat) : Int32 := vlP X (tB X l pos) (tE X l (tB X l pos) - tB X l pos)
theorem nOK_v {pos M : Nat} (hM : M ≤ 99) (h : nOK X l pos M) : ∃ v, v ≤ M ∧ nVl X l pos = nI v := by
  obtain ⟨h1, h2⟩ := h
  obtain ⟨-, -, -, d1, -, d2⟩ := tk_dg h1
  obtain ⟨v, hv, ev⟩ := vl_nI d1 d2
  refine ⟨v, ?_, ev⟩
  rw [ev] at h2
  by_cases hlt : M < v
  · exact absurd (nI_lt hlt (by omega)) h2
  · omega
theorem c_num_loop {h : AH} {β : Type} {kk : Int32 → Int32 → Option β} {x1 x2 : Int32} (hl : l ≤ 160) (H : Lo h) (C : TextC h l X) {b e : Nat} (e4 : hI h 1 4 = nI e) (hel : e ≤ l) (h2 : e - b ≤ 2) : ∀ (m j f : Nat), b + j + m = e → m < f → L_X1_nextNumber_49 h 1 x1 x2 kk f (vlP X b j) (nI (b + j)) = kk (vlP X b (e - b)) (nI e) := by
  intro m
  induction m with
  | zero =>
    intro j f e0 hf
    obtain ⟨f, rfl⟩ : ∃ g, f = g + 1 := ⟨f - 1, by omega⟩
    have hj : b + j = e := by omega
    have hj2 : e - b = j := by omega
    conv => lhs; unfold L_X1_nextNumber_49
    rw [o1_gI H, Option.bind_some, e4, if_pos (nI_le (by omega) (by omega)), hj, hj2]
  | succ m ih =>
    intro j f e0 hf
    obtain ⟨f, rfl⟩ : ∃ g, f = g + 1 := ⟨f - 1, by omega⟩
    have ex : hI h 2 (b + j) = X (b + j) := C.2 _ (by omega)
    have hv : 10 * vlP X b j + (X (b + j) - 48) = vlP X b (j + 1) := by
      show _ = if 2 ≤ j then vlP X b j else 10 * vlP X b j + X (b + j) - 48
      rw [if_neg (by omega), Int32.sub_eq_add_neg, Int32.sub_eq_add_neg, Int32.add_assoc]
    conv => lhs; unfold L_X1_nextNumber_49
    rw [o1_gI H, Option.bind_some, e4, if_neg (nI_ge (by omega) (by omega)), o1_R0 H, Option.bind_some, o2_ld H (by omega), Option.bind_some, ex, hv, nI_1]
    exact ih (j + 1) f (by omega) (by omega)
theorem nOK_dec (X : Nat → Int32) (l pos M : Nat) : nOK X l pos M ∨ ¬ nOK X l pos M := Classical.em _
theorem c_num {h : AH} (hl : l ≤ 160) (H : Lo h) (C : TextC h l X) {pos : Nat} (hp : pos ≤ l) (e4 : hI h 1 4 = nI pos) (M : Nat) : ∃ h', Tx h h' [3, 4] ∧ hI h' 1 3 = nI (tB X l pos) ∧ hI h' 1 4 = nI (tE X l (tB X l pos)) ∧ (nOK X l pos M → F_X1_nextNumber h 1 (nI M) = some (nVl X l pos, h')) ∧ (¬ nOK X l pos M → F_X1_nextNumber h 1 (nI M) = some (-1, h')) := by
  obtain ⟨h1, k1, k2, k3, k4⟩ := c_tok hl H C hp e4
  have hb := tB_le X hp
  have he := tE_le X hb.2
  have H1 := H.fr k2.1
  have C1 := C.tx k2 (by decide)
  refine ⟨h1, k2, k3, k4, ?_⟩
  unfold nOK nVl F_X1_nextNumber
  rw [o1_ck H, Option.bind_some, k1, Option.bind_some, o1_gI H1, Option.bind_some, o1_gI H1, Option.bind_some, k3, k4, pk_sub he.1]
  generalize hB : tB X l pos = b at *
  have z1 : (1 : Int32) = nI 1 := rfl
  have z2 : (2 : Int32) = nI 2 := rfl
  by_cases hn1 : tE X l b - b < 1
  · have ht : ¬ tkP X l b = 2 := fun z => by have := (tk_dg z).2.2.2.2.1; omega
    rw [if_pos (show nI (tE X l b - b) < 1 by rw [z1]; exact nI_lt hn1 (by omega))]
    exact ⟨fun z => absurd z.1 ht, fun _ => rfl⟩
  · have hbl : b < l := by
      by_cases hbl : b < l
      · exact hbl
      · exfalso
        have : tE X l b = b := by unfold tE; rw [if_neg hbl]
        omega
    rw [if_neg (show ¬ nI (tE X l b - b) < 1 by rw [z1]; exact nI_nlt (by omega) (by omega))]
    by_cases hn2 : 2 < tE X l b - b
    · have ht : ¬ tkP X l b = 2 := fun z => by have := (tk_dg z).2.2.2.1; omega
      rw [if_pos (show (2 : Int32) < nI (tE X l b - b) by rw [z2]; exact nI_lt hn2 (by omega))]
      exact ⟨fun z => absurd z.1 ht, fun _ => rfl⟩
    · have ex : hI h1 2 b = X b := C1.2 b hbl
      rw [if_neg (show ¬ (2 : Int32) < nI (tE X l b - b) by rw [z2]; exact nI_nlt (by omega) (by omega)), o1_R0 H1, Option.bind_some, Option.bind_some, o2_ld H1 (by omega), Option.bind_some, ex, dgB_ok, Option.bind_some]
      cases hd : dgB (X b) with
      | false =>
        have ht : ¬ tkP X l b = 2 := fun z => by have := (tk_dg z).2.2.1; rw [hd] at this; cases this
        rw [if_neg (not_not_intro bI_f)]
        exact ⟨fun z => absurd z.1 ht, fun _ => rfl⟩
      | true =>
        have hs : smB (X b) = false := by
          cases hz : smB (X b) with
          | false => rfl
          | true => have := sm_dg hz; rw [hd] at this; cases this
        have ht : tkP X l b = 2 := by
          unfold tkP
          rw [if_pos hbl, if_neg (by rw [hs]; decide), if_pos hd, if_neg hn2]
        rw [if_pos bI_t]
        have L := c_num_loop (X := X) (l := l) (kk := fun y9 _ => if nI M < y9 then some ((-1), h1) else some (y9, h1)) (x1 := nI M) (x2 := nI (tE X l b - b)) hl H1 C1 k4 he.2 (show tE X l b - b ≤ 2 by omega) (tE X l b - b) 0 FU (by omega) (by unfold FU; omega)
        have L' : L_X1_nextNumber_49 h1 1 (nI M) (nI (tE X l b - b)) (fun y9 _ => if nI M < y9 then some ((-1), h1) else some (y9, h1)) FU 0 (nI b) = (if nI M < vlP X b (tE X l b - b) then some ((-1), h1) else some (vlP X b (tE X l b - b), h1)) := L
        rw [Option.bind_some, L']
        refine ⟨fun z => ?_, fun z => ?_⟩
        · rw [if_neg z.2]
        · by_cases hlt : nI M < vlP X b (tE X l b - b)
          · rw [if_pos hlt]
          · exact absurd ⟨ht, hlt⟩ z
theorem r_num {h : AH} (hl : l ≤ 160) (hX : ∀ i, i < l → ∃ c, c ≤ 255 ∧ X i = nI c) (H : Lo h) (C : TextR h l X) {pos : Nat} (hp : pos ≤ l) (e4 : hI h 145 11 = nI pos) (M : Nat) : ∃ h', Rx h h' [11, 12, 13, 15] ∧ hI h' 145 12 = nI (tB X l pos) ∧ hI h' 145 11 = nI (tE X l (tB X l pos)) ∧ (nOK X l pos M → F_X5_number h 145 (nI M) = some (1, h') ∧ hI h' 145 15 = nVl X l pos) ∧ (¬ nOK X l pos M → F_X5_number h 145 (nI M) = some (0, h')) := by
  obtain ⟨h1, k1, k2, k3, k4, k5, k6, k7⟩ := r_step hl hX H C hp e4
  have H1 := H.fs k2.1
  refine ⟨h1, k2, k3, k4, ?_⟩
  unfold nOK nVl F_X5_number
  rw [o145_ck H, Option.bind_some, k1, Option.bind_some, o145_gI H1, Option.bind_some, k5]
  by_cases ht : tkP X l (tB X l pos) = 2
  · rw [if_neg (not_not_intro ht), o145_gI H1, Option.bind_some, k7 ht]
    refine ⟨fun z => ?_, fun z => ?_⟩
    · rw [if_neg z.2]
      exact ⟨rfl, rfl⟩
    · by_cases hlt : nI M < vlP X (tB X l pos) (tE X l (tB X l pos) - tB X l pos)
      · rw [if_pos hlt]
      · exact absurd ⟨ht, hlt⟩ z
  · rw [if_pos ht]
    exact ⟨fun z => absurd z.1 ht, fun _ => rfl⟩
end WORDS
