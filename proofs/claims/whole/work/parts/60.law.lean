/-! the law: both sides, call by call -/
section LAW
variable {σ : SG} {h : AH}
/-- what goes on from a heap where both sides stand alike comes to 1 -/
def Go (K : AH → Option (Int32 × AH)) : Prop := ∀ h σ, VI σ → Lo h → CI h σ → RI h σ → ∃ h', K h = some (1, h')
theorem lw_im {FC FR : AH → Option (Int32 × AH)} {K : AH → Option (Int32 × AH)} (O : Op FC FR σ) (H : Lo h) (C : CI h σ) (R : RI h σ) (g : Go K) : ∃ h', (Option.bind (FC h) fun a => Option.bind (FR a.2) fun b => if a.1 = b.1 then K b.2 else some (0, b.2)) = some (1, h') := by
  obtain ⟨ans, σ', V', oc, or⟩ := O
  obtain ⟨h1, c1, c2, c3⟩ := oc h H C
  obtain ⟨h2, r1, r2, r3⟩ := or h1 c3.1 (R.fr c3)
  obtain ⟨h', e⟩ := g h2 σ' V' r3.1 (c2.fr r3 V') r2
  refine ⟨h', ?_⟩
  rw [c1, Option.bind_some, r1, Option.bind_some, if_pos rfl, e]
theorem pu_eq {m : Option Int32} {h h' : AH} {a : Int32} (e : (Option.bind m fun v => some (v, h)) = some (a, h')) : m = some a ∧ h' = h := by
  cases m with
  | none => cases e
  | some x =>
    rw [Option.bind_some] at e
    injection e with e
    injection e with e1 e2
    exact ⟨by rw [e1], e2.symm⟩
theorem lw_pu {PC PR : AH → Option Int32} {K : AH → Option (Int32 × AH)} (O : Op (fun h => Option.bind (PC h) fun v => some (v, h)) (fun h => Option.bind (PR h) fun v => some (v, h)) σ) (H : Lo h) (C : CI h σ) (R : RI h σ) (g : Go K) : ∃ h', (Option.bind (PC h) fun a => Option.bind (PR h) fun b => if a = b then K h else some (0, h)) = some (1, h') := by
  obtain ⟨ans, σ', V', oc, or⟩ := O
  obtain ⟨h1, c1, c2, c3⟩ := oc h H C
  obtain ⟨c4, rfl⟩ := pu_eq c1
  obtain ⟨h2, r1, r2, r3⟩ := or h1 H R
  obtain ⟨r4, rfl⟩ := pu_eq r1
  obtain ⟨h', e⟩ := g h2 σ' V' H c2 r2
  refine ⟨h', ?_⟩
  rw [c4, Option.bind_some, r4, Option.bind_some, if_pos rfl, e]
theorem lw_mx {PC : AH → Option Int32} {FR : AH → Option (Int32 × AH)} {K : AH → Option (Int32 × AH)} (O : Op (fun h => Option.bind (PC h) fun v => some (v, h)) FR σ) (H : Lo h) (C : CI h σ) (R : RI h σ) (g : Go K) : ∃ h', (Option.bind (PC h) fun a => Option.bind (FR h) fun b => if a = b.1 then K b.2 else some (0, b.2)) = some (1, h') := by
  obtain ⟨ans, σ', V', oc, or⟩ := O
  obtain ⟨h1, c1, c2, c3⟩ := oc h H C
  obtain ⟨c4, rfl⟩ := pu_eq c1
  obtain ⟨h2, r1, r2, r3⟩ := or h1 H R
  obtain ⟨h', e⟩ := g h2 σ' V' r3.1 (c2.fr r3 V') r2
  refine ⟨h', ?_⟩
  rw [c4, Option.bind_some, r1, Option.bind_some, if_pos rfl, e]
theorem scr_at {ln k : Nat} {xs : Nat → Int32} (hk : k < ln) (hl : ln < 2 ^ 31) : scr ln xs (nI k) = some (xs k) := by
  unfold scr
  rw [if_pos (inB_nI hk hl), nI_clamp (by omega)]
theorem ln_lt {ln i : Nat} (hl : ln ≤ 320) (hi : i ≤ 1000) : (nI ln - 5 < nI i) ↔ ln < i + 5 := by
  rw [Int32.lt_iff_toInt_lt, show nI ln - 5 = nI ln - nI 5 from rfl, pk_sub_toInt (by omega) (by omega), nI_toInt (by omega)]
  omega
theorem law_loop {ln : Nat} {xs : Nat → Int32} (hl : ln ≤ 320) : ∀ (m i f : Nat), ln < i + 5 * m + 5 → i ≤ 320 → m < f → Go (fun h => L_L_law_18 ln xs 0 145 (fun h128 _ => some (1, h128)) f h (nI i)) := by
  intro m
  induction m with
  | zero =>
    intro i f hi hi2 hf h σ V H C R
    obtain ⟨f, rfl⟩ : ∃ g, f = g + 1 := ⟨f - 1, by omega⟩
    refine ⟨h, ?_⟩
    show L_L_law_18 ln xs 0 145 (fun h128 _ => some (1, h128)) (f + 1) h (nI i) = _
    conv => lhs; unfold L_L_law_18
    rw [if_pos ((ln_lt hl (by omega)).mpr (by omega))]
  | succ m ih =>
    intro i f hi hi2 hf h σ V H C R
    obtain ⟨f, rfl⟩ : ∃ g, f = g + 1 := ⟨f - 1, by omega⟩
    show ∃ h', L_L_law_18 ln xs 0 145 (fun h128 _ => some (1, h128)) (f + 1) h (nI i) = some (1, h')
    by_cases hd : ln < i + 5
    · refine ⟨h, ?_⟩
      conv => lhs; unfold L_L_law_18
      rw [if_pos ((ln_lt hl (by omega)).mpr hd)]
    · have g := ih (i + 5) f (by omega) (by omega) (by omega)
      have s0 : scr ln xs (nI i) = some (xs i) := scr_at (by omega) (by omega)
      have a1 : nI i + 1 = nI (i + 1) := nI_1 i
      have a2 : nI i + 2 = nI (i + 2) := (nI_add i 2).symm ▸ rfl
      have a3 : nI i + 3 = nI (i + 3) := (nI_add i 3).symm ▸ rfl
      have a4 : nI i + 4 = nI (i + 4) := (nI_add i 4).symm ▸ rfl
      have a5 : nI i + 5 = nI (i + 5) := (nI_add i 5).symm ▸ rfl
      have s1 : scr ln xs (nI (i + 1)) = some (xs (i + 1)) := scr_at (by omega) (by omega)
      have s2 : scr ln xs (nI (i + 2)) = some (xs (i + 2)) := scr_at (by omega) (by omega)
      have s3 : scr ln xs (nI (i + 3)) = some (xs (i + 3)) := scr_at (by omega) (by omega)
      have s4 : scr ln xs (nI (i + 4)) = some (xs (i + 4)) := scr_at (by omega) (by omega)
      unfold L_L_law_18
      simp only [if_neg (fun z => hd ((ln_lt hl (show i ≤ 1000 by omega)).mp z)), s0, a1, a2, a3, a4, a5, s1, s2, s3, s4, Option.bind_some]
      generalize xs i &&& 31 = w
      generalize xs (i + 1) = x1
      generalize xs (i + 2) = x2
      generalize xs (i + 3) = x3
      generalize xs (i + 4) = x4
      by_cases c0 : w = 0
      · rw [if_pos c0]
        exact lw_im (FC := fun h => F_X4_write h 0 x1) (FR := fun h => F_X5_write h 145 x1) (op_write V x1) H C R g
      rw [if_neg c0]
      by_cases c1 : w = 1
      · rw [if_pos c1]
        exact lw_im (FC := fun h => F_X4_erase h 0) (FR := fun h => F_X5_erase h 145) (op_erase V) H C R g
      rw [if_neg c1]
      by_cases c2 : w = 2
      · rw [if_pos c2]
        exact lw_im (FC := fun h => F_X4_fault h 0) (FR := fun h => F_X5_fault h 145) (op_fault V) H C R g
      rw [if_neg c2]
      by_cases c3 : w = 3
      · rw [if_pos c3]
        exact lw_im (FC := fun h => F_X4_yard h 0) (FR := fun h => F_X5_yard h 145) (op_yard V) H C R g
      rw [if_neg c3]
      by_cases c4 : w = 4
      · rw [if_pos c4]
        exact lw_pu (PC := fun h => F_X4_place h 0 x1 x2) (PR := fun h => F_X5_place h 145 x1 x2) (op_place V x1 x2) H C R g
      rw [if_neg c4]
      by_cases c5 : w = 5
      · rw [if_pos c5]
        exact lw_pu (PC := fun h => F_X4_hen h 0 x1 x2) (PR := fun h => F_X5_hen h 145 x1 x2) (op_hen V x1 x2) H C R g
      rw [if_neg c5]
      by_cases c6 : w = 6
      · rw [if_pos c6]
        exact lw_pu (PC := fun h => F_X4_news h 0 x1) (PR := fun h => F_X5_news h 145 x1) (op_news V x1) H C R g
      rw [if_neg c6]
      by_cases c7 : w = 7
      · rw [if_pos c7]
        exact lw_mx (PC := fun h => F_X4_as h 0 x1 x2) (FR := fun h => F_X5_as h 145 x1 x2) (op_as V x1 x2) H C R g
      rw [if_neg c7]
      by_cases c8 : w = 8
      · rw [if_pos c8]
        exact lw_im (FC := fun h => F_X4_day h 0) (FR := fun h => F_X5_day h 145) (op_day V) H C R g
      rw [if_neg c8]
      by_cases c9 : w = 9
      · rw [if_pos c9]
        exact lw_im (FC := fun h => F_X4_thunder h 0) (FR := fun h => F_X5_thunder h 145) (op_thunder V) H C R g
      rw [if_neg c9]
      by_cases c10 : w = 10
      · rw [if_pos c10]
        exact lw_im (FC := fun h => F_X4_straw h 0 x1 x2) (FR := fun h => F_X5_straw h 145 x1 x2) (op_straw V x1 x2) H C R g
      rw [if_neg c10]
      by_cases c11 : w = 11
      · rw [if_pos c11]
        exact lw_im (FC := fun h => F_X4_move h 0 x1 x2) (FR := fun h => F_X5_move h 145 x1 x2) (op_move V x1 x2) H C R g
      rw [if_neg c11]
      by_cases c12 : w = 12
      · rw [if_pos c12]
        exact lw_im (FC := fun h => F_X4_eat h 0 x1) (FR := fun h => F_X5_eat h 145 x1) (op_eat V x1) H C R g
      rw [if_neg c12]
      by_cases c13 : w = 13
      · rw [if_pos c13]
        exact lw_im (FC := fun h => F_X4_heed h 0 x1) (FR := fun h => F_X5_heed h 145 x1) (op_heed V x1) H C R g
      rw [if_neg c13]
      by_cases c14 : w = 14
      · rw [if_pos c14]
        exact lw_im (FC := fun h => F_X4_undo h 0) (FR := fun h => F_X5_undo h 145) (op_undo V) H C R g
      rw [if_neg c14]
      by_cases c15 : w = 15
      · rw [if_pos c15]
        exact lw_im (FC := fun h => F_X4_keep h 0 x1) (FR := fun h => F_X5_keep h 145 x1) (op_keep V x1) H C R g
      rw [if_neg c15]
      by_cases c16 : w = 16
      · rw [if_pos c16]
        exact lw_im (FC := fun h => F_X4_back h 0 x1) (FR := fun h => F_X5_back h 145 x1) (op_back V x1) H C R g
      rw [if_neg c16]
      by_cases c17 : w = 17
      · rw [if_pos c17]
        exact lw_im (FC := fun h => F_X4_lays h 0 x1 x2) (FR := fun h => F_X5_lays h 145 x1 x2) (op_lays V x1 x2) H C R g
      rw [if_neg c17]
      by_cases c18 : w = 18
      · rw [if_pos c18]
        exact lw_im (FC := fun h => F_X4_rights h 0 x1 x2) (FR := fun h => F_X5_rights h 145 x1 x2) (op_rights V x1 x2) H C R g
      rw [if_neg c18]
      by_cases c19 : w = 19
      · rw [if_pos c19]
        exact lw_im (FC := fun h => F_X4_ask h 0 x1 x2) (FR := fun h => F_X5_ask h 145 x1 x2) (op_ask V x1 x2) H C R g
      rw [if_neg c19]
      by_cases c20 : w = 20
      · rw [if_pos c20]
        exact lw_im (FC := fun h => F_X4_trough h 0 x1) (FR := fun h => F_X5_trough h 145 x1) (op_trough V x1) H C R g
      rw [if_neg c20]
      by_cases c21 : w = 21
      · rw [if_pos c21]
        exact lw_im (FC := fun h => F_X4_warmth h 0 x1 x2) (FR := fun h => F_X5_warmth h 145 x1 x2) (op_warmth V x1 x2) H C R g
      rw [if_neg c21]
      by_cases c22 : w = 22
      · rw [if_pos c22]
        exact lw_im (FC := fun h => F_X4_seen h 0 x1 x2 x3) (FR := fun h => F_X5_seen h 145 x1 x2 x3) (op_seen V x1 x2 x3) H C R g
      rw [if_neg c22]
      by_cases c23 : w = 23
      · rw [if_pos c23]
        exact lw_im (FC := fun h => F_X4_forget h 0) (FR := fun h => F_X5_forget h 145) (op_forget V) H C R g
      rw [if_neg c23]
      by_cases c24 : w = 24
      · rw [if_pos c24]
        exact lw_im (FC := fun h => F_X4_kinds h 0 x1) (FR := fun h => F_X5_kinds h 145 x1) (op_kinds V x1) H C R g
      rw [if_neg c24]
      by_cases c25 : w = 25
      · rw [if_pos c25]
        exact lw_im (FC := fun h => F_X4_habits h 0 x1) (FR := fun h => F_X5_habits h 145 x1) (op_habits V x1) H C R g
      rw [if_neg c25]
      by_cases c26 : w = 26
      · rw [if_pos c26]
        exact lw_im (FC := fun h => F_X4_foxes h 0 x1 x2 x3 x4) (FR := fun h => F_X5_foxes h 145 x1 x2 x3 x4) (op_foxes V x1 x2 x3 x4) H C R g
      rw [if_neg c26]
      by_cases c27 : w = 27
      · rw [if_pos c27]
        exact lw_pu (PC := fun h => F_X4_count h 0 x1) (PR := fun h => F_X5_count h 145 x1) (op_count V x1) H C R g
      rw [if_neg c27]
      exact g h σ V H C R
/-- the whole law over the empty heap -/
theorem law_1 {ln : Nat} {xs : Nat → Int32} (hl : ln ≤ 320) : ∃ h, F_L_law ln xs e0 = some (1, h) := by
  obtain ⟨h4, k1, H, C, R⟩ := start
  obtain ⟨h, e⟩ := law_loop (xs := xs) hl 64 0 FU (by omega) (by omega) (by unfold FU; omega) h4 σ0 vi_0 H C R
  refine ⟨h, ?_⟩
  have e : L_L_law_18 ln xs 0 145 (fun h128 _ => some (1, h128)) FU h4 (nI 0) = some (1, h) := e
  rw [nI_0] at e
  unfold F_L_law
  rw [Option.bind_some, show hN e0 = 0 from rfl, hA_eq, Option.bind_some, Option.bind_some, hA_N, k1, Option.bind_some]
  exact e
end LAW
