/-! MY OWN LOGIC OVER W: one world for all methods: objects by numbers 0, 1 .. (number k lies at gS + k), ints, references and longs of each in functions -/
def lw_g : List Cond := lw_tbl.filter goodWord
theorem lw_g_in {w : Cond} (h : w ∈ lw_g) : w ∈ lw_tbl := (List.mem_filter.mp h).1
theorem lw_g_good : GoodIn lw_g lw_g := fun w h => ⟨h, good_of_word (List.mem_filter.mp h).2⟩
theorem lw_g_of {w : Cond} (h : w ∈ lw_tbl) (hg : goodWord w = true) : w ∈ lw_g := List.mem_filter.mpr ⟨h, hg⟩
abbrev WG : Type := Launch × va_G × (ClassId × ClassId × ClassId × ClassId) × (Nat × Nat × (Nat → Int32)) × Nat × (Nat → Nat) × (Nat → Nat)
def gl (G : WG) : Launch := G.1
def gD (G : WG) : va_G := G.2.1
def gI (G : WG) : ClassId := G.2.2.1.1
def gC (G : WG) : ClassId := G.2.2.1.2.1
def gZ (G : WG) : ClassId := G.2.2.1.2.2.1
def gY (G : WG) : ClassId := G.2.2.1.2.2.2
def gB (G : WG) : Nat := G.2.2.2.1.1
def gLn (G : WG) : Nat := G.2.2.2.1.2.1
def gXs (G : WG) : Nat → Int32 := G.2.2.2.1.2.2
def gS (G : WG) : Nat := G.2.2.2.2.1
def gK (G : WG) : Nat → Nat := G.2.2.2.2.2.1
def gV (G : WG) : Nat → Nat := G.2.2.2.2.2.2
def gA (G : WG) : Nat → Prop := fun q => gS G ≤ q
def gT (G : WG) : List (ClassId × FieldType) := [(gI G, .int), (gC G, .char), (gZ G, .boolean), (gY G, .object RX3)]
def ad (G : WG) (k : Nat) : Nat := gS G + k
/-- the heap: how many objects; tag and length of each; references, ints, longs -/
abbrev AH : Type := Nat × (Nat → Nat × Nat) × (Nat → Nat → Option Nat) × (Nat → Nat → Int32) × (Nat → Nat → Int64)
def hN (h : AH) : Nat := h.1
def hS (h : AH) : Nat → Nat × Nat := h.2.1
def hR (h : AH) : Nat → Nat → Option Nat := h.2.2.1
def hI (h : AH) : Nat → Nat → Int32 := h.2.2.2.1
def hL (h : AH) : Nat → Nat → Int64 := h.2.2.2.2
/-- object o is of tag t, with n slots -/
def Is (h : AH) (o t n : Nat) : Prop := o < hN h ∧ hS h o = (t, n)
def sA (h : AH) (o : Nat) (g : Nat → Int32) : AH := (hN h, hS h, hR h, va_up (hI h) o g, hL h)
abbrev sI (h : AH) (o j : Nat) (v : Int32) : AH := sA h o (upd (hI h o) j v)
def sR (h : AH) (o j : Nat) (v : Option Nat) : AH := (hN h, hS h, va_up (hR h) o (va_up (hR h o) j v), hI h, hL h)
def sL (h : AH) (o j : Nat) (v : Int64) : AH := (hN h, hS h, hR h, hI h, va_up (hL h) o (va_up (hL h o) j v))
def sN (h : AH) (t n : Nat) : AH := (hN h + 1, va_up (hS h) (hN h) (t, n), va_up (hR h) (hN h) (fun _ => none), va_up (hI h) (hN h) (fun _ => 0), va_up (hL h) (hN h) (fun _ => 0))
def tyO (ci : Nat) : Nat → FieldType := if ci = 0 then tyX0 else if ci = 1 then tyX1 else if ci = 2 then tyX2 else if ci = 3 then tyX3 else if ci = 4 then tyX4 else tyX5
def nfO (ci : Nat) : Nat := if ci = 0 then 4 else if ci = 1 then 5 else if ci = 2 then 8 else if ci = 3 then 14 else if ci = 4 then 11 else if ci = 5 then 21 else 0
/-- 0: an int or a boolean, 1: a reference, 2: a long -/
def ftc (ci j : Nat) : Nat := match tyO ci j with
  | .int => 0
  | .boolean => 0
  | .long => 2
  | .object _ => 1
  | .array _ => 1
  | _ => 3
def rdF (G : WG) (h : AH) (o ci j : Nat) : Value := if ftc ci j = 0 then .int (hI h o j) else if ftc ci j = 2 then .long (hL h o j) else va_rf ((hR h o j).map (ad G))
def rdE (G : WG) (h : AH) (o : Nat) : va_E :=
  if (hS h o).1 = 10 then .inl (gI G, (hS h o).2, .inl (hI h o))
  else if (hS h o).1 = 11 then .inl (gC G, (hS h o).2, .inl (hI h o))
  else if (hS h o).1 = 12 then .inl (gZ G, (hS h o).2, .inl (hI h o))
  else if (hS h o).1 = 13 then .inl (gY G, (hS h o).2, .inr (.inr (.inr (.inr (fun i => (hR h o i).map (ad G))))))
  else .inr ((hS h o).1, (List.range (nfO (hS h o).1)).map (rdF G h o (hS h o).1))
def rdW (G : WG) (h : AH) : va_W := (List.range (hN h)).map (fun k => (ad G k, rdE G h k))
def Rep (G : WG) (h : AH) (H : Heap) : Prop := va_P (gD G) vwCl (rdW G h) H
theorem rdW_get {G : WG} {h : AH} {k : Nat} (hk : k < hN h) : (rdW G h)[k]? = some (ad G k, rdE G h k) := by
  unfold rdW
  rw [List.getElem?_map, List.getElem?_range hk]
  rfl
theorem rdW_inv {G : WG} {h : AH} {k : Nat} {q : Nat × va_E} (hq : (rdW G h)[k]? = some q) : k < hN h ∧ q = (ad G k, rdE G h k) := by
  have hlt : k < hN h := by
    have := (List.getElem?_eq_some_iff.mp hq).1
    unfold rdW at this
    simpa using this
  rw [rdW_get hlt] at hq
  exact ⟨hlt, (Option.some.inj hq).symm⟩
theorem rdW_D (G : WG) (h : AH) : va_D (gA G) (rdW G h) := by
  refine ⟨fun i j p q hi hj e => ?_, fun k q hk => ?_⟩
  · obtain ⟨-, rfl⟩ := rdW_inv hi
    obtain ⟨-, rfl⟩ := rdW_inv hj
    have e : gS G + i = gS G + j := e
    omega
  · obtain ⟨-, rfl⟩ := rdW_inv hk
    exact Nat.le_add_right _ _
theorem rdW_set {G : WG} {h h' : AH} {k : Nat} {e : va_E} (hk : k < hN h) (hn : hN h' = hN h) (he : rdE G h' k = e) (ho : ∀ j, j ≠ k → rdE G h' j = rdE G h j) : (rdW G h).set k (ad G k, e) = rdW G h' := by
  apply List.ext_getElem?
  intro j
  by_cases hjk : j = k
  · subst hjk
    rw [List.getElem?_set_self (by unfold rdW; simpa using hk), rdW_get (by rw [hn]; exact hk), he]
  · rw [List.getElem?_set_ne (fun q => hjk q.symm)]
    by_cases hj : j < hN h
    · rw [rdW_get hj, rdW_get (by rw [hn]; exact hj), ho j hjk]
    · have l1 : (rdW G h).length = hN h := by unfold rdW; simp
      have l2 : (rdW G h').length = hN h := by unfold rdW; simp [hn]
      rw [List.getElem?_eq_none (by omega), List.getElem?_eq_none (by omega)]
theorem rdW_push {G : WG} {h h' : AH} {e : va_E} (hn : hN h' = hN h + 1) (he : rdE G h' (hN h) = e) (ho : ∀ j, j < hN h → rdE G h' j = rdE G h j) : rdW G h ++ [(ad G (hN h), e)] = rdW G h' := by
  unfold rdW
  rw [hn, List.range_succ, List.map_append]
  refine congr (congrArg _ ?_) ?_
  · apply List.map_congr_left
    intro a ha
    rw [ho a (List.mem_range.mp ha)]
  · simp [he]
theorem upn {α : Type} {f : Nat → α} {k j : Nat} {v : α} (h : j ≠ k) : va_up f k v j = f j := if_neg h
theorem ups {α : Type} {f : Nat → α} {k : Nat} {v : α} : va_up f k v k = v := if_pos rfl
theorem rdE_sA {G : WG} {h : AH} {o : Nat} {g : Nat → Int32} {j : Nat} (hj : j ≠ o) : rdE G (sA h o g) j = rdE G h j := by
  have e : hI (sA h o g) j = hI h j := upn hj
  unfold rdE
  rw [e]
  have e2 : ∀ ci, rdF G (sA h o g) j ci = rdF G h j ci := by
    intro ci
    funext i
    unfold rdF
    rw [e]
    rfl
  rw [e2]
  rfl
theorem rdE_sR {G : WG} {h : AH} {o i : Nat} {g : Option Nat} {j : Nat} (hj : j ≠ o) : rdE G (sR h o i g) j = rdE G h j := by
  have e : hR (sR h o i g) j = hR h j := upn hj
  unfold rdE
  rw [e]
  have e2 : ∀ ci, rdF G (sR h o i g) j ci = rdF G h j ci := by
    intro ci
    funext i
    unfold rdF
    rw [e]
    rfl
  rw [e2]
  rfl
theorem rdE_sL {G : WG} {h : AH} {o i : Nat} {g : Int64} {j : Nat} (hj : j ≠ o) : rdE G (sL h o i g) j = rdE G h j := by
  have e : hL (sL h o i g) j = hL h j := upn hj
  unfold rdE
  have e2 : ∀ ci, rdF G (sL h o i g) j ci = rdF G h j ci := by
    intro ci
    funext i
    unfold rdF
    rw [e]
    rfl
  rw [e2]
  rfl
theorem rdE_sN {G : WG} {h : AH} {t n : Nat} {j : Nat} (hj : j < hN h) : rdE G (sN h t n) j = rdE G h j := by
  have hne : j ≠ hN h := by omega
  have e1 : hI (sN h t n) j = hI h j := upn hne
  have e2 : hR (sN h t n) j = hR h j := upn hne
  have e3 : hL (sN h t n) j = hL h j := upn hne
  have e4 : hS (sN h t n) j = hS h j := upn hne
  unfold rdE
  have e5 : ∀ ci, rdF G (sN h t n) j ci = rdF G h j ci := by
    intro ci
    funext i
    unfold rdF
    rw [e1, e2, e3]
  rw [e1, e2, e4, e5]
