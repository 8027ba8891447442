section RN3
variable {G : WG} {M M' : MD} {cu : Nat × Nat} {pc : Nat} {lv lv' : List (Nat × Value)} {st : List Value} {h : AH} {post : PO}
/-- what a caller goes on with -/
def Ki (G : WG) (M : MD) (cu : Nat × Nat) (q : Nat) (lv : List (Nat × Value)) (st : List Value) (post : PO) : PO := fun r h' => match r with
  | some x => Rn G M cu q lv (.int x :: st) h' post
  | none => Rn G M cu q lv st h' post
def CB0 (M' : MD) (n : Nat) : Prop := Cond.initialized (mY M').cls ∈ lw_g ∧ Cond.code (mY M') (mC M') (mL M') (mT M') ∈ lw_g ∧ ((mY M').cls ≠ "java/lang/invoke/MethodHandle" ∧ (mY M').cls ≠ "java/lang/invoke/VarHandle" ∧ (parseMethodDescriptor (mY M').desc).map (fun d => d.parameters.length) = some n) ∧ plainFor (mY M') = true ∧ (mY M').cls ≠ RL
def CV0 (M' : MD) (n : Nat) : Prop := CB0 M' n ∧ Cond.instanceMethod (mY M') ∈ lw_g ∧ Cond.selects (mY M').cls (mY M') (mY M') ∈ lw_g
def CS0 (M' : MD) (n : Nat) : Prop := CB0 M' n ∧ Cond.static (mY M') ∈ lw_g
def CI0 (M' : MD) (n : Nat) : Prop := CB0 M' n ∧ Cond.instanceMethod (mY M') ∈ lw_g ∧ (mY M').name = "<init>"
def ML (own : String) (idx : Nat) (M' : MD) : Prop := Cond.methodLink own idx (mY M') ∈ lw_g
def rmOK (M M' : MD) : Prop := (mR M').frames + 1 ≤ (mR M).frames ∧ 8 + (mL M' + 11) + (mR M').locals ≤ (mR M).locals
def cuOK (M M' : MD) (cu cu' : Nat × Nat) : Prop := (cu.1 + (mR M').cells, cu.2 + (mR M').slots) = cu' ∧ cu'.1 ≤ (mR M).cells ∧ cu'.2 ≤ (mR M).slots
theorem mW_good (h : Cond.code (mY M') (mC M') (mL M') (mT M') ∈ lw_g) : GoodIn lw_g (mW M') := by
  intro w hw
  rcases List.mem_cons.mp hw with rfl | hw
  · exact lw_g_good _ h
  · exact lw_g_good _ hw
theorem pc_blind {av : List Value} : FrameBlind (va_Pc av (fun U => U.heap.size = gS G + hN h ∧ Rep G h U.heap ∧ Wd G U)) := by
  intro a U g mk hp
  exact ⟨hp.1, hp.2.1, hp.2.2.1, hp.2.2.2.blind g mk a⟩

theorem rn_cVi (q : Nat) (cu' : Nat × Nat) {idx n : Nat} {o ci nn : Nat} {As : List Value} {ty : FieldType} (hd : decode (mC M) pc = .ok (.invokevirtual idx, 3)) (hq : pc + 3 = q) (hl0 : ML (mY M).cls idx M') (hw : CV0 M' n) (hrm : rmOK M M') (ht : mT M' = some ty) (hi : Is h o ci nn) (hci : (vwCl[ci]?).map (fun r => r.1) = some (mY M').cls) (hn : As.length = n) (hst : (st.map fun v => v.category).sum ≤ 8) (hlen : (lg_sl (.ref (ad G o) :: As)).length ≤ mL M') (hcu : cuOK M M' cu cu') (k : Rn G M' (0, 0) 0 (lv_args 0 (.ref (ad G o) :: As)) [] h (Ki G M cu' q lv st post)) : Rn G M cu pc lv (As.reverse ++ .ref (ad G o) :: st) h post := by
  subst hq
  intro p e s m args below meth c H locs Q ls C Y rR rS hz hl T hT X
  have hsz := rR.size C.2.2.2.2.2.2.2.1 rS hz hT X

  have hMt := met_i (G := G) (M := M') (h := h) ⟨hw.1.2.2.2.1, hw.1.2.2.2.2⟩ ht hlen k
  have hrc : ∃ cellB : Cell, H[ad G o]? = some cellB ∧ cellB.vm.isStatics = false ∧ s.vm.findClass (mY M').cls = some cellB.cls := by
    cases hr : vwCl[ci]? with
    | none => rw [hr] at hci; cases hci
    | some r =>
      rw [hr] at hci
      have hrn : r.1 = (mY M').cls := Option.some.inj hci
      have he := rdW_get (G := G) hi.1
      rw [rdE_obj hi (cl_ok ci r hr).1] at he
      rw [← hrn]
      exact va_recv C.2.2.2.2.2.2.2.1.2.1 rR hr he
  obtain ⟨rfl, hb1, hb2⟩ := hcu
  refine va_calli (va_runV (As := As) (rest := st) (b := ad G o) (C := (mY M').cls) ⟨C.1, C.2.1, C.2.2.2.2.1, C.2.2.2.2.2.1, C.2.2.2.2.2.2.1⟩ hMt ⟨callB_of n C.2.2.2.2.2.2.1 (mW_good hw.1.2.1) rfl rfl rfl (C.2.2.2.2.2.2.1 _ hw.1.1) (C.2.2.2.2.2.2.1 _ hl0) hw.1.2.2.1 hrm, C.2.2.2.2.2.2.1 _ hw.2.1, C.2.2.2.2.2.2.1 _ hw.2.2⟩ ⟨pc_blind, hrc, fun U hU hW => ⟨rfl, by rw [hU]; exact hsz, by rw [hU]; exact rR, C.2.2.2.2.2.2.2.1.to (locs := locs) hW (by rw [hU]; exact rS)⟩⟩ rfl hn hl.1 rfl (lv_room hst) hd ⟨hb1, hb2⟩) rS (fun _ _ z => z) (fun _ z => z) (fun x h' t H1 locs1 ht1 hvm hp hB hz1 hk1 hS1 => ?_) T hT X
  have hB : Rep G h' t.heap := hB
  rw [ht1] at hB
  exact hp.1 p e s m args below meth c H1 locs1 Q ls C Y hB hS1 (by have := hp.2; show s.heap.size + (cu.1 + (mR M').cells) = gS G + hN h'; omega) hl
theorem rn_cVv (q : Nat) (cu' : Nat × Nat) {idx n : Nat} {o ci nn : Nat} {As : List Value}  (hd : decode (mC M) pc = .ok (.invokevirtual idx, 3)) (hq : pc + 3 = q) (hl0 : ML (mY M).cls idx M') (hw : CV0 M' n) (hrm : rmOK M M') (ht : mT M' = none) (hi : Is h o ci nn) (hci : (vwCl[ci]?).map (fun r => r.1) = some (mY M').cls) (hn : As.length = n) (hst : (st.map fun v => v.category).sum ≤ 8) (hlen : (lg_sl (.ref (ad G o) :: As)).length ≤ mL M') (hcu : cuOK M M' cu cu') (k : Rn G M' (0, 0) 0 (lv_args 0 (.ref (ad G o) :: As)) [] h (Ki G M cu' q lv st post)) : Rn G M cu pc lv (As.reverse ++ .ref (ad G o) :: st) h post := by
  subst hq
  intro p e s m args below meth c H locs Q ls C Y rR rS hz hl T hT X
  have hsz := rR.size C.2.2.2.2.2.2.2.1 rS hz hT X

  have hMt := met_v (G := G) (M := M') (h := h) ⟨hw.1.2.2.2.1, hw.1.2.2.2.2⟩ ht hlen k
  have hrc : ∃ cellB : Cell, H[ad G o]? = some cellB ∧ cellB.vm.isStatics = false ∧ s.vm.findClass (mY M').cls = some cellB.cls := by
    cases hr : vwCl[ci]? with
    | none => rw [hr] at hci; cases hci
    | some r =>
      rw [hr] at hci
      have hrn : r.1 = (mY M').cls := Option.some.inj hci
      have he := rdW_get (G := G) hi.1
      rw [rdE_obj hi (cl_ok ci r hr).1] at he
      rw [← hrn]
      exact va_recv C.2.2.2.2.2.2.2.1.2.1 rR hr he
  obtain ⟨rfl, hb1, hb2⟩ := hcu
  refine va_callv (va_runV (As := As) (rest := st) (b := ad G o) (C := (mY M').cls) ⟨C.1, C.2.1, C.2.2.2.2.1, C.2.2.2.2.2.1, C.2.2.2.2.2.2.1⟩ hMt ⟨callB_of n C.2.2.2.2.2.2.1 (mW_good hw.1.2.1) rfl rfl rfl (C.2.2.2.2.2.2.1 _ hw.1.1) (C.2.2.2.2.2.2.1 _ hl0) hw.1.2.2.1 hrm, C.2.2.2.2.2.2.1 _ hw.2.1, C.2.2.2.2.2.2.1 _ hw.2.2⟩ ⟨pc_blind, hrc, fun U hU hW => ⟨rfl, by rw [hU]; exact hsz, by rw [hU]; exact rR, C.2.2.2.2.2.2.2.1.to (locs := locs) hW (by rw [hU]; exact rS)⟩⟩ rfl hn hl.1 rfl (lv_room hst) hd ⟨hb1, hb2⟩) rS (fun _ _ z => z) (fun _ z => z) (fun h' t H1 locs1 ht1 hvm hp hB hz1 hk1 hS1 => ?_) T hT X
  have hB : Rep G h' t.heap := hB
  rw [ht1] at hB
  exact hp.1 p e s m args below meth c H1 locs1 Q ls C Y hB hS1 (by have := hp.2; show s.heap.size + (cu.1 + (mR M').cells) = gS G + hN h'; omega) hl
theorem rn_cTi (q : Nat) (cu' : Nat × Nat) {idx n : Nat} {i : Nat} {As : List Value} {ty : FieldType} (hd : decode (mC M) pc = .ok (.invokevirtual idx, 3)) (hq : pc + 3 = q) (hl0 : ML (mY M).cls idx M') (hw : CV0 M' n) (hrm : rmOK M M') (ht : mT M' = some ty) (hi : i < 8) (hci : (mY M').cls = "java/lang/String") (hn : As.length = n) (hst : (st.map fun v => v.category).sum ≤ 8) (hlen : (lg_sl (.ref (gK G i) :: As)).length ≤ mL M') (hcu : cuOK M M' cu cu') (k : Rn G M' (0, 0) 0 (lv_args 0 (.ref (gK G i) :: As)) [] h (Ki G M cu' q lv st post)) : Rn G M cu pc lv (As.reverse ++ .ref (gK G i) :: st) h post := by
  subst hq
  intro p e s m args below meth c H locs Q ls C Y rR rS hz hl T hT X
  have hsz := rR.size C.2.2.2.2.2.2.2.1 rS hz hT X

  have hMt := met_i (G := G) (M := M') (h := h) ⟨hw.1.2.2.2.1, hw.1.2.2.2.2⟩ ht hlen k
  have hrc : ∃ cellB : Cell, H[gK G i]? = some cellB ∧ cellB.vm.isStatics = false ∧ s.vm.findClass (mY M').cls = some cellB.cls := by
    rw [hci]
    exact vk_recv C.2.2.2.2.2.2.2.1.2.2.2.2.1 hi rS
  obtain ⟨rfl, hb1, hb2⟩ := hcu
  refine va_calli (va_runV (As := As) (rest := st) (b := gK G i) (C := (mY M').cls) ⟨C.1, C.2.1, C.2.2.2.2.1, C.2.2.2.2.2.1, C.2.2.2.2.2.2.1⟩ hMt ⟨callB_of n C.2.2.2.2.2.2.1 (mW_good hw.1.2.1) rfl rfl rfl (C.2.2.2.2.2.2.1 _ hw.1.1) (C.2.2.2.2.2.2.1 _ hl0) hw.1.2.2.1 hrm, C.2.2.2.2.2.2.1 _ hw.2.1, C.2.2.2.2.2.2.1 _ hw.2.2⟩ ⟨pc_blind, hrc, fun U hU hW => ⟨rfl, by rw [hU]; exact hsz, by rw [hU]; exact rR, C.2.2.2.2.2.2.2.1.to (locs := locs) hW (by rw [hU]; exact rS)⟩⟩ rfl hn hl.1 rfl (lv_room hst) hd ⟨hb1, hb2⟩) rS (fun _ _ z => z) (fun _ z => z) (fun x h' t H1 locs1 ht1 hvm hp hB hz1 hk1 hS1 => ?_) T hT X
  have hB : Rep G h' t.heap := hB
  rw [ht1] at hB
  exact hp.1 p e s m args below meth c H1 locs1 Q ls C Y hB hS1 (by have := hp.2; show s.heap.size + (cu.1 + (mR M').cells) = gS G + hN h'; omega) hl
theorem rn_cSi (q : Nat) (cu' : Nat × Nat) {idx n : Nat}  {As : List Value} {ty : FieldType} (hd : decode (mC M) pc = .ok (.invokestatic idx, 3)) (hq : pc + 3 = q) (hl0 : ML (mY M).cls idx M') (hw : CS0 M' n) (hrm : rmOK M M') (ht : mT M' = some ty) (hn : As.length = n) (hst : (st.map fun v => v.category).sum ≤ 8) (hlen : (lg_sl As).length ≤ mL M') (hcu : cuOK M M' cu cu') (k : Rn G M' (0, 0) 0 (lv_args 0 As) [] h (Ki G M cu' q lv st post)) : Rn G M cu pc lv (As.reverse ++ st) h post := by
  subst hq
  intro p e s m args below meth c H locs Q ls C Y rR rS hz hl T hT X
  have hsz := rR.size C.2.2.2.2.2.2.2.1 rS hz hT X

  have hMt := met_i (G := G) (M := M') (h := h) ⟨hw.1.2.2.2.1, hw.1.2.2.2.2⟩ ht hlen k
  obtain ⟨rfl, hb1, hb2⟩ := hcu
  refine va_calli (va_runS (As := As) (rest := st) ⟨C.1, C.2.1, C.2.2.2.2.1, C.2.2.2.2.2.1, C.2.2.2.2.2.2.1⟩ hMt ⟨callB_of n C.2.2.2.2.2.2.1 (mW_good hw.1.2.1) rfl rfl rfl (C.2.2.2.2.2.2.1 _ hw.1.1) (C.2.2.2.2.2.2.1 _ hl0) hw.1.2.2.1 hrm, C.2.2.2.2.2.2.1 _ hw.2⟩ ⟨pc_blind, fun U hU hW => ⟨rfl, by rw [hU]; exact hsz, by rw [hU]; exact rR, C.2.2.2.2.2.2.2.1.to (locs := locs) hW (by rw [hU]; exact rS)⟩⟩ rfl hn hl.1 rfl (lv_room hst) hd ⟨hb1, hb2⟩) rS (fun _ _ z => z) (fun _ z => z) (fun x h' t H1 locs1 ht1 hvm hp hB hz1 hk1 hS1 => ?_) T hT X
  have hB : Rep G h' t.heap := hB
  rw [ht1] at hB
  exact hp.1 p e s m args below meth c H1 locs1 Q ls C Y hB hS1 (by have := hp.2; show s.heap.size + (cu.1 + (mR M').cells) = gS G + hN h'; omega) hl
theorem rn_cSv (q : Nat) (cu' : Nat × Nat) {idx n : Nat}  {As : List Value}  (hd : decode (mC M) pc = .ok (.invokestatic idx, 3)) (hq : pc + 3 = q) (hl0 : ML (mY M).cls idx M') (hw : CS0 M' n) (hrm : rmOK M M') (ht : mT M' = none) (hn : As.length = n) (hst : (st.map fun v => v.category).sum ≤ 8) (hlen : (lg_sl As).length ≤ mL M') (hcu : cuOK M M' cu cu') (k : Rn G M' (0, 0) 0 (lv_args 0 As) [] h (Ki G M cu' q lv st post)) : Rn G M cu pc lv (As.reverse ++ st) h post := by
  subst hq
  intro p e s m args below meth c H locs Q ls C Y rR rS hz hl T hT X
  have hsz := rR.size C.2.2.2.2.2.2.2.1 rS hz hT X

  have hMt := met_v (G := G) (M := M') (h := h) ⟨hw.1.2.2.2.1, hw.1.2.2.2.2⟩ ht hlen k
  obtain ⟨rfl, hb1, hb2⟩ := hcu
  refine va_callv (va_runS (As := As) (rest := st) ⟨C.1, C.2.1, C.2.2.2.2.1, C.2.2.2.2.2.1, C.2.2.2.2.2.2.1⟩ hMt ⟨callB_of n C.2.2.2.2.2.2.1 (mW_good hw.1.2.1) rfl rfl rfl (C.2.2.2.2.2.2.1 _ hw.1.1) (C.2.2.2.2.2.2.1 _ hl0) hw.1.2.2.1 hrm, C.2.2.2.2.2.2.1 _ hw.2⟩ ⟨pc_blind, fun U hU hW => ⟨rfl, by rw [hU]; exact hsz, by rw [hU]; exact rR, C.2.2.2.2.2.2.2.1.to (locs := locs) hW (by rw [hU]; exact rS)⟩⟩ rfl hn hl.1 rfl (lv_room hst) hd ⟨hb1, hb2⟩) rS (fun _ _ z => z) (fun _ z => z) (fun h' t H1 locs1 ht1 hvm hp hB hz1 hk1 hS1 => ?_) T hT X
  have hB : Rep G h' t.heap := hB
  rw [ht1] at hB
  exact hp.1 p e s m args below meth c H1 locs1 Q ls C Y hB hS1 (by have := hp.2; show s.heap.size + (cu.1 + (mR M').cells) = gS G + hN h'; omega) hl
theorem rn_cIv (q : Nat) (cu' : Nat × Nat) {idx n : Nat} {o : Nat} {As : List Value}  (hd : decode (mC M) pc = .ok (.invokespecial idx, 3)) (hq : pc + 3 = q) (hl0 : ML (mY M).cls idx M') (hw : CI0 M' n) (hrm : rmOK M M') (ht : mT M' = none) (hn : As.length = n) (hst : (st.map fun v => v.category).sum ≤ 8) (hlen : (lg_sl (.ref (ad G o) :: As)).length ≤ mL M') (hcu : cuOK M M' cu cu') (k : Rn G M' (0, 0) 0 (lv_args 0 (.ref (ad G o) :: As)) [] h (Ki G M cu' q lv st post)) : Rn G M cu pc lv (As.reverse ++ .ref (ad G o) :: st) h post := by
  subst hq
  intro p e s m args below meth c H locs Q ls C Y rR rS hz hl T hT X
  have hsz := rR.size C.2.2.2.2.2.2.2.1 rS hz hT X

  have hMt := met_v (G := G) (M := M') (h := h) ⟨hw.1.2.2.2.1, hw.1.2.2.2.2⟩ ht hlen k
  have hmw : mW M' = Cond.code (mY M') (mC M') (mL M') none :: lw_g := by show Cond.code (mY M') (mC M') (mL M') (mT M') :: lw_g = _; rw [ht]
  obtain ⟨rfl, hb1, hb2⟩ := hcu
  refine va_callv (va_runI (As := As) (rest := st) (bytes := mC M') (maxL := mL M') ⟨C.1, C.2.1, C.2.2.2.2.1, C.2.2.2.2.2.1, C.2.2.2.2.2.2.1⟩ hMt ⟨callB_of n C.2.2.2.2.2.2.1 (mW_good hw.1.2.1) hmw rfl rfl (C.2.2.2.2.2.2.1 _ hw.1.1) (C.2.2.2.2.2.2.1 _ hl0) hw.1.2.2.1 hrm, hw.2.2, C.2.2.2.2.2.2.1 _ hw.2.1⟩ ⟨pc_blind, fun U hU hW => ⟨rfl, by rw [hU]; exact hsz, by rw [hU]; exact rR, C.2.2.2.2.2.2.2.1.to (locs := locs) hW (by rw [hU]; exact rS)⟩⟩ rfl hn hl.1 rfl (lv_room hst) hd ⟨hb1, hb2⟩) rS (fun _ _ z => z) (fun _ z => z) (fun h' t H1 locs1 ht1 hvm hp hB hz1 hk1 hS1 => ?_) T hT X
  have hB : Rep G h' t.heap := hB
  rw [ht1] at hB
  exact hp.1 p e s m args below meth c H1 locs1 Q ls C Y hB hS1 (by have := hp.2; show s.heap.size + (cu.1 + (mR M').cells) = gS G + hN h'; omega) hl
theorem rn_cNv (q : Nat) (cu' : Nat × Nat) {idx n : Nat} {o : Nat} {As : List Value}  (hd : decode (mC M) pc = .ok (.invokespecial idx, 3)) (hq : pc + 3 = q) (hl0 : va_Nw (.methodLinkNest (mY M).cls idx (mY M') RX4) = va_Nw (.methodLinkNest RX4 9 yX1_init RX4) ∨ va_Nw (.methodLinkNest (mY M).cls idx (mY M') RX4) = va_Nw (.methodLinkNest RX4 49 yX0_init RX4)) (hw : CI0 M' n) (hrm : rmOK M M') (ht : mT M' = none) (hn : As.length = n) (hst : (st.map fun v => v.category).sum ≤ 8) (hlen : (lg_sl (.ref (ad G o) :: As)).length ≤ mL M') (hcu : cuOK M M' cu cu') (k : Rn G M' (0, 0) 0 (lv_args 0 (.ref (ad G o) :: As)) [] h (Ki G M cu' q lv st post)) : Rn G M cu pc lv (As.reverse ++ .ref (ad G o) :: st) h post := by
  subst hq
  intro p e s m args below meth c H locs Q ls C Y rR rS hz hl T hT X
  have hsz := rR.size C.2.2.2.2.2.2.2.1 rS hz hT X

  have hMt := met_v (G := G) (M := M') (h := h) ⟨hw.1.2.2.2.1, hw.1.2.2.2.2⟩ ht hlen k
  have hmw : mW M' = Cond.code (mY M') (mC M') (mL M') none :: lw_g := by show Cond.code (mY M') (mC M') (mL M') (mT M') :: lw_g = _; rw [ht]
  have hnw : va_Nw (.methodLinkNest (mY M).cls idx (mY M') RX4) s := by
    rcases hl0 with z | z
    · rw [z]; exact C.2.2.2.2.2.2.2.1.2.2.2.2.2.2.2.2.1
    · rw [z]; exact C.2.2.2.2.2.2.2.1.2.2.2.2.2.2.2.2.2
  obtain ⟨rfl, hb1, hb2⟩ := hcu
  refine va_callv (va_runIN (As := As) (rest := st) (bytes := mC M') (maxL := mL M') (host := RX4) ⟨C.1, C.2.1, C.2.2.2.2.1, C.2.2.2.2.2.1, C.2.2.2.2.2.2.1⟩ hMt ⟨va_cnB n C.2.2.2.2.2.2.1 (mW_good hw.1.2.1) hmw rfl rfl hnw (C.2.2.2.2.2.2.1 _ hw.1.1) hw.1.2.2.1 hrm, hw.2.2, C.2.2.2.2.2.2.1 _ hw.2.1⟩ ⟨pc_blind, fun U hU hW => ⟨rfl, by rw [hU]; exact hsz, by rw [hU]; exact rR, C.2.2.2.2.2.2.2.1.to (locs := locs) hW (by rw [hU]; exact rS)⟩⟩ rfl hn hl.1 rfl (lv_room hst) hd ⟨hb1, hb2⟩) rS (fun _ _ z => z) (fun _ z => z) (fun h' t H1 locs1 ht1 hvm hp hB hz1 hk1 hS1 => ?_) T hT X
  have hB : Rep G h' t.heap := hB
  rw [ht1] at hB
  exact hp.1 p e s m args below meth c H1 locs1 Q ls C Y hB hS1 (by have := hp.2; show s.heap.size + (cu.1 + (mR M').cells) = gS G + hN h'; omega) hl
end RN3
