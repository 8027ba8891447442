/-! the world that every method of the claim stands in, and the judgement Rn: method M, at pc, with locals lv, stack st, heap h, comes to its end with post -/
def stK : List Nat := [35, 46, 51, 59, 90, 92, 94, 96]
def stT : List String := ["yard", "calm", "place", "news", "layer", "broody", "pullet", "china"]
def stL : List Nat := [4, 4, 5, 4, 5, 6, 6, 5]
def stB : List (List Int32) := [[121, 97, 114, 100], [99, 97, 108, 109], [112, 108, 97, 99, 101], [110, 101, 119, 115], [108, 97, 121, 101, 114], [98, 114, 111, 111, 100, 121], [112, 117, 108, 108, 101, 116], [99, 104, 105, 110, 97]]
def Wd (G : WG) (U : State) : Prop :=
  gS G ≤ U.heap.size ∧ va_K (gD G) vwCl (gT G) U ∧ gB G < gS G ∧ va_X (gB G) (gLn G) (gXs G) U U.heap ∧ vk_S 8 stL stB (gK G) (gV G) (gA G) U U.heap ∧ (∀ i : Nat, i < 8 → vk_R RX1 (stK.getD i 0) (stT.getD i "") (gK G i) U) ∧ (va_Z "java/lang/String" "COMPACT_STRINGS" "Z" (.int 1) (gA G) U U.heap ∧ va_Zq "jdk/internal/util/Preconditions" "SIOOBE_FORMATTER" "Ljava/util/function/BiFunction;" (gA G) U U.heap) ∧ va_AO RX3 U ∧ va_Nw (.methodLinkNest RX4 9 yX1_init RX4) U ∧ va_Nw (.methodLinkNest RX4 49 yX0_init RX4) U
theorem Wd.to {G : WG} {s U : State} {locs : List Loc} (h : Wd G s) (hW : s.WarmedH U.vm) (hS : va_S (gA G) s.heap U.heap locs) : Wd G U := by
  obtain ⟨h1, h2, h3, h4, h5, h6, h7, h8, h9, h10⟩ := h
  have hb : ¬ gA G (gB G) := Nat.not_le.mpr h3
  refine ⟨Nat.le_trans h1 hS.1, va_K.moved hW.alike h2, h3, (h4.moved hW.alike).kept (hS.2.1 _ (by omega) hb), (h5.moved hW.alike).kept hS.2.1, fun i hi => (h6 i hi).warm hW, ⟨(h7.1.moved hW.alike).kept hS.2.1, (h7.2.moved hW.alike).kept hS.2.1⟩, h8.moved hW.alike, va_Nw.warmM hW h9, va_Nw.warmM hW h10⟩
theorem Wd.blind {G : WG} {U : State} (g : JFrame) (mk : MethodId) (a : Array Value) (h : Wd G U) : Wd G (U.calling g mk a) := by
  obtain ⟨h1, h2, h3, h4, h5, h6, h7, h8, h9, h10⟩ := h
  exact ⟨h1, va_K.moved (u := U) (U := U.calling g mk a) (Vm.Alike.refl U.vm) h2, h3, h4.moved (u := U) (U := U.calling g mk a) (Vm.Alike.refl U.vm), h5.moved (u := U) (U := U.calling g mk a) (Vm.Alike.refl U.vm), fun i hi => (h6 i hi).same rfl, ⟨h7.1.moved (u := U) (U := U.calling g mk a) (Vm.Alike.refl U.vm), h7.2.moved (u := U) (U := U.calling g mk a) (Vm.Alike.refl U.vm)⟩, h8.moved (u := U) (U := U.calling g mk a) (Vm.Alike.refl U.vm), va_Nw.same rfl rfl h9, va_Nw.same rfl rfl h10⟩
/-- a method: name, code, locals, what it returns, its room -/
abbrev MD : Type := MethodName × ByteArray × Nat × Option FieldType × Room
abbrev mY (M : MD) : MethodName := M.1
abbrev mC (M : MD) : ByteArray := M.2.1
abbrev mL (M : MD) : Nat := M.2.2.1
abbrev mT (M : MD) : Option FieldType := M.2.2.2.1
abbrev mR (M : MD) : Room := M.2.2.2.2
abbrev mW (M : MD) : List Cond := Cond.code (mY M) (mC M) (mL M) (mT M) :: lw_g
def Cx (G : WG) (M : MD) (p : Program) (s : State) (m : MethodId) (args : Array Value) (meth : Method) (c : Code) : Prop :=
  p.tables.exec = Jvm.exec ∧ c.code = mC M ∧ meth.sig.returnType = mT M ∧ meth.locks = false ∧ c.maxLocals = mL M ∧ s.vm.findClass (mY M).cls = some m.cls ∧ (∀ w ∈ lw_g, w.before args s = true) ∧ Wd G s ∧ meth.name = (mY M).name
abbrev PO : Type := Option Int32 → AH → Prop
def xq (M : MD) (cu : Nat × Nat) : Prop := cu = ((mR M).cells, (mR M).slots) ∨ ((mY M).cls = RL ∧ cu.1 ≤ (mR M).cells ∧ cu.2 ≤ (mR M).slots)
def Rh (G : WG) (M : MD) (post : PO) (p : Program) (e : Env) (s : State) (m : MethodId) (args : Array Value) (below : List Frame) (meth : Method) (c : Code) (Q : State → Prop) : Prop :=
  (∀ (x : Int32) (ty : FieldType) (h : AH) (H : Heap) (locs : List Loc) (cu : Nat × Nat) (pc : Nat) (ls : Array Slot), mT M = some ty → narrow ty (.int x) = .int x → decode (mC M) pc = .ok (.ireturn, 1) → post (some x) h → Rep G h H → va_S (gA G) s.heap H locs → s.heap.size + cu.1 = gS G + hN h → xq M cu → W p (gl G) e (mR M) s m args below meth c H locs cu.1 cu.2 Q (F0 m pc ls [.int x])) ∧
  ∀ (h : AH) (H : Heap) (locs : List Loc) (cu : Nat × Nat) (pc : Nat) (ls : Array Slot), mT M = none → decode (mC M) pc = .ok (.return_, 1) → post none h → Rep G h H → va_S (gA G) s.heap H locs → s.heap.size + cu.1 = gS G + hN h → xq M cu → W p (gl G) e (mR M) s m args below meth c H locs cu.1 cu.2 Q (F0 m pc ls [])
def Rn (G : WG) (M : MD) (cu : Nat × Nat) (pc : Nat) (lv : List (Nat × Value)) (st : List Value) (h : AH) (post : PO) : Prop :=
  ∀ (p : Program) (e : Env) (s : State) (m : MethodId) (args : Array Value) (below : List Frame) (meth : Method) (c : Code) (H : Heap) (locs : List Loc) (Q : State → Prop) (ls : Array Slot), Cx G M p s m args meth c → Rh G M post p e s m args below meth c Q → Rep G h H → va_S (gA G) s.heap H locs → s.heap.size + cu.1 = gS G + hN h → lv_has ls (mL M) lv → W p (gl G) e (mR M) s m args below meth c H locs cu.1 cu.2 Q (F0 m pc ls st)
theorem Rep.size {G : WG} {M : MD} {h : AH} {p : Program} {e : Env} {s : State} {m : MethodId} {args : Array Value} {below : List Frame} {meth : Method} {c : Code} {H : Heap} {locs : List Loc} {a b : Nat} {T : State} (hR : Rep G h H) (hw : Wd G s) (hS : va_S (gA G) s.heap H locs) (hz : s.heap.size + a = gS G + hN h) (hT : T.heap = H) (X : Stand p (gl G) e (mR M) s m args below meth c T locs a b) : H.size = gS G + hN h := by
  have h1 : (T.setVm s.vm).heap.size ≤ s.heap.size + a := X.same.2.2.1
  have h2 : T.heap.size ≤ s.heap.size + a := h1
  rw [hT] at h2
  have h3 := hS.1
  have h4 := hw.1
  by_cases hn : hN h = 0
  · omega
  · have hk : hN h - 1 < hN h := by omega
    have h5 := (hR _ _ (rdW_get (G := G) hk)).lt
    have h6 : gS G + (hN h - 1) < H.size := h5
    omega
/-- a method's contract out of its walk -/
theorem met_i {G : WG} {M : MD} {ty : FieldType} {av : List Value} {h : AH} {post : PO} (hy : plainFor (mY M) = true ∧ (mY M).cls ≠ RL) (ht : mT M = some ty) (hlen : (lg_sl av).length ≤ mL M) (k : Rn G M (0, 0) 0 (lv_args 0 av) [] h post) :
    Met (gl G) (mY M) (mW M) (mR M) (va_Pc av (fun U => U.heap.size = gS G + hN h ∧ Rep G h U.heap ∧ Wd G U)) (va_Qi (fun r h' => post (some r) h' ∧ hN h' = hN h + (mR M).cells) (fun h' t => Rep G h' t.heap) (gA G)) (mR M).cells (mR M).slots (gA G) := by
  refine va_MetF (cc := mC M) (maxL := mL M) (ret := mT M) hy.1 rfl ?_
  intro p e s m args below meth c s₁ B hml hv
  obtain ⟨rfl, hz, hR, hWd⟩ := hv
  have hts : ∀ w ∈ lw_g, w.before av.toArray s = true := fun w hw => atoms_spec (ws := mW M) B.pre w (List.mem_cons_of_mem _ hw)
  have hl := lv_entry av (n := mL M) hlen
  rw [lg_entry_eq]
  have hlk := B.notSynchronized
  refine k p e s m _ below meth c s.heap [] _ _ ⟨B.exec, B.bytes, B.returns, hlk, hml, findClass_of_methodNamed B.named, hts, hWd, (name_of_methodNamed B.named B.method).1⟩ ⟨?_, ?_⟩ hR va_S.rf hz hl
  · intro x ty2 h2 H locs cu pc ls e1 e2 e3 e4 e5 e6 e7 e8
    rcases e8 with e8 | e8
    · subst e8
      exact W.zret B.exec B.bytes (B.returns.trans e1) e2 (fun t ht2 _ => ⟨⟨x, h2, rfl, ⟨e4, by have e7 : s.heap.size + (mR M).cells = gS G + hN h2 := e7; omega⟩, by show Rep G h2 t.heap; rw [ht2]; exact e5⟩, e6.F ht2⟩) e6.2.2 e3 hlk
    · exact absurd e8.1 hy.2
  · intro h2 H locs cu pc ls e1 e3 e4 e5 e6 e7 e8
    rw [ht] at e1
    cases e1
theorem met_v {G : WG} {M : MD} {av : List Value} {h : AH} {post : PO} (hy : plainFor (mY M) = true ∧ (mY M).cls ≠ RL) (ht : mT M = none) (hlen : (lg_sl av).length ≤ mL M) (k : Rn G M (0, 0) 0 (lv_args 0 av) [] h post) :
    Met (gl G) (mY M) (mW M) (mR M) (va_Pc av (fun U => U.heap.size = gS G + hN h ∧ Rep G h U.heap ∧ Wd G U)) (va_Qv (fun h' => post none h' ∧ hN h' = hN h + (mR M).cells) (fun h' t => Rep G h' t.heap) (gA G)) (mR M).cells (mR M).slots (gA G) := by
  refine va_MetF (cc := mC M) (maxL := mL M) (ret := mT M) hy.1 rfl ?_
  intro p e s m args below meth c s₁ B hml hv
  obtain ⟨rfl, hz, hR, hWd⟩ := hv
  have hts : ∀ w ∈ lw_g, w.before av.toArray s = true := fun w hw => atoms_spec (ws := mW M) B.pre w (List.mem_cons_of_mem _ hw)
  have hl := lv_entry av (n := mL M) hlen
  rw [lg_entry_eq]
  have hlk := B.notSynchronized
  refine k p e s m _ below meth c s.heap [] _ _ ⟨B.exec, B.bytes, B.returns, hlk, hml, findClass_of_methodNamed B.named, hts, hWd, (name_of_methodNamed B.named B.method).1⟩ ⟨?_, ?_⟩ hR va_S.rf hz hl
  · intro x ty2 h2 H locs cu pc ls e1 e2 e3 e4 e5 e6 e7 e8
    rw [ht] at e1
    cases e1
  · intro h2 H locs cu pc ls e1 e3 e4 e5 e6 e7 e8
    rcases e8 with e8 | e8
    · subst e8
      exact W.vret B.exec B.bytes (B.returns.trans e1) (fun t ht2 _ => ⟨⟨h2, rfl, ⟨e4, by have e7 : s.heap.size + (mR M).cells = gS G + hN h2 := e7; omega⟩, by show Rep G h2 t.heap; rw [ht2]; exact e5⟩, e6.F ht2⟩) e6.2.2 e3 hlk
    · exact absurd e8.1 hy.2
/-- locals: read, store (sorted) -/
def lvG : List (Nat × Value) → Nat → Option Value
  | [], _ => none
  | (j, w) :: t, i => if j = i then some w else lvG t i
def lvF1 (i : Nat) : Nat × Value → Bool := fun q => !(q.1 == i) && !(q.1 + 1 == i && q.2.category == 2)
def lvF2 (i : Nat) : Nat × Value → Bool := fun q => !(q.1 == i) && (!(q.1 == i + 1) && !(q.1 + 1 == i && q.2.category == 2))
def lvP : List (Nat × Value) → Nat → Value → List (Nat × Value)
  | [], i, v => [(i, v)]
  | (j, w) :: t, i, v => if i < j then (i, v) :: (j, w) :: t else (j, w) :: lvP t i v
theorem lvG_mem : ∀ {l : List (Nat × Value)} {i : Nat} {v : Value}, lvG l i = some v → (i, v) ∈ l
  | [], _, _, h => by simp [lvG] at h
  | (j, w) :: t, i, v, h => by
    unfold lvG at h
    by_cases e : j = i
    · rw [if_pos e] at h
      cases h
      subst e
      exact List.mem_cons_self
    · rw [if_neg e] at h
      exact List.mem_cons_of_mem _ (lvG_mem h)
theorem lvP_mem : ∀ {l : List (Nat × Value)} {i : Nat} {v : Value} {q : Nat × Value}, q ∈ lvP l i v → q ∈ (i, v) :: l
  | [], _, _, _, h => h
  | (j, w) :: t, i, v, q, h => by
    unfold lvP at h
    by_cases e : i < j
    · rw [if_pos e] at h
      exact h
    · rw [if_neg e] at h
      rcases List.mem_cons.mp h with h | h
      · subst h
        exact List.mem_cons_of_mem _ List.mem_cons_self
      · rcases List.mem_cons.mp (lvP_mem h) with h | h
        · subst h
          exact List.mem_cons_self
        · exact List.mem_cons_of_mem _ (List.mem_cons_of_mem _ h)
theorem lv_get {ls : Array Slot} {n : Nat} {l : List (Nat × Value)} {i : Nat} {v : Value} (h : lv_has ls n l) (hg : lvG l i = some v) : ls[i]? = some (.val v) := h.2.2 (i, v) (lvG_mem hg)
theorem lv_put {ls : Array Slot} {n : Nat} {l : List (Nat × Value)} {i : Nat} {v : Value} (h : lv_has ls n ((i, v) :: l)) : lv_has ls n (lvP l i v) := ⟨h.1, h.2.1, fun q hq => h.2.2 q (lvP_mem hq)⟩
section RN
variable {G : WG} {M : MD} {cu : Nat × Nat} {pc : Nat} {lv lv' : List (Nat × Value)} {st : List Value} {h : AH} {post : PO}
theorem rn_iret {x : Int32} (ty : FieldType) (hd : decode (mC M) pc = .ok (.ireturn, 1)) (ht : mT M = some ty) (hn : narrow ty (.int x) = .int x) (hx : xq M cu) (k : post (some x) h) : Rn G M cu pc lv [.int x] h post := by
  intro p e s m args below meth c H locs Q ls C Y hR hS hz hl
  exact Y.1 x ty h H locs cu pc ls ht hn hd k hR hS hz hx
theorem rn_vret (hd : decode (mC M) pc = .ok (.return_, 1)) (ht : mT M = none) (hx : xq M cu) (k : post none h) : Rn G M cu pc lv [] h post := by
  intro p e s m args below meth c H locs Q ls C Y hR hS hz hl
  exact Y.2 h H locs cu pc ls ht hd k hR hS hz hx
theorem rn_mono {post' : PO} (hp : ∀ r h', post' r h' → post r h') (k : Rn G M cu pc lv st h post') : Rn G M cu pc lv st h post := by
  intro p e s m args below meth c H locs Q ls C Y hR hS hz hl
  exact k p e s m args below meth c H locs Q ls C ⟨fun x ty h2 H locs cu pc ls a1 a2 a3 a4 => Y.1 x ty h2 H locs cu pc ls a1 a2 a3 (hp _ _ a4), fun h2 H locs cu pc ls a1 a3 a4 => Y.2 h2 H locs cu pc ls a1 a3 (hp _ _ a4)⟩ hR hS hz hl
theorem rn_lv (hl : ∀ q ∈ lv', q ∈ lv) (k : Rn G M cu pc lv' st h post) : Rn G M cu pc lv st h post := by
  intro p e s m args below meth c H locs Q ls C Y hR hS hz hlv
  exact k p e s m args below meth c H locs Q ls C Y hR hS hz ⟨hlv.1, hlv.2.1, fun q hq => hlv.2.2 q (hl q hq)⟩

theorem rn_iconst (q : Nat) {n : Int} {v : Int32} (hd : decode (mC M) pc = .ok (.iconst n, 1)) (hq : pc + 1 = q) (hv : Int32.ofInt n = v) (k : Rn G M cu q lv (.int v :: st) h post) : Rn G M cu pc lv st h post := by
  subst hq
  intro p e s m args below meth c H locs Q ls C Y hR hS hz hl
  exact lv_iconst C.1 C.2.1 hd hv (k p e s m args below meth c H locs Q ls C Y hR hS hz hl)
theorem rn_bipush (q : Nat) {n : Int} {v : Int32} (hd : decode (mC M) pc = .ok (.bipush n, 2)) (hq : pc + 2 = q) (hv : (Int8.ofInt n).toInt32 = v) (k : Rn G M cu q lv (.int v :: st) h post) : Rn G M cu pc lv st h post := by
  subst hq
  intro p e s m args below meth c H locs Q ls C Y hR hS hz hl
  exact lv_bipush C.1 C.2.1 hd hv (k p e s m args below meth c H locs Q ls C Y hR hS hz hl)
theorem rn_sipush (q : Nat) {n : Int} {v : Int32} (hd : decode (mC M) pc = .ok (.sipush n, 3)) (hq : pc + 3 = q) (hv : (Int16.ofInt n).toInt32 = v) (k : Rn G M cu q lv (.int v :: st) h post) : Rn G M cu pc lv st h post := by
  subst hq
  intro p e s m args below meth c H locs Q ls C Y hR hS hz hl
  exact lv_sipush C.1 C.2.1 hd hv (k p e s m args below meth c H locs Q ls C Y hR hS hz hl)
theorem rn_lconst (q : Nat) {n : Fin 2} {v : Int64} (hd : decode (mC M) pc = .ok (.lconst n, 1)) (hq : pc + 1 = q) (hv : Int64.ofNat (n : Nat) = v) (k : Rn G M cu q lv (.long v :: st) h post) : Rn G M cu pc lv st h post := by
  subst hq
  intro p e s m args below meth c H locs Q ls C Y hR hS hz hl
  exact lv_lconst C.1 C.2.1 hd hv (k p e s m args below meth c H locs Q ls C Y hR hS hz hl)
theorem rn_iload_n (q : Nat) {j : Fin 4} {x : Int32} (hd : decode (mC M) pc = .ok (.iload_n j, 1)) (hq : pc + 1 = q) (hg : lvG lv j = some (.int x)) (k : Rn G M cu q lv (.int x :: st) h post) : Rn G M cu pc lv st h post := by
  subst hq
  intro p e s m args below meth c H locs Q ls C Y hR hS hz hl
  exact lv_iload_n C.1 C.2.1 hd rfl (lv_get hl hg) (k p e s m args below meth c H locs Q ls C Y hR hS hz hl)
theorem rn_iload (q : Nat) {j : Nat} {x : Int32} (hd : decode (mC M) pc = .ok (.iload j, 2)) (hq : pc + 2 = q) (hg : lvG lv j = some (.int x)) (k : Rn G M cu q lv (.int x :: st) h post) : Rn G M cu pc lv st h post := by
  subst hq
  intro p e s m args below meth c H locs Q ls C Y hR hS hz hl
  exact lv_iload C.1 C.2.1 hd (lv_get hl hg) (k p e s m args below meth c H locs Q ls C Y hR hS hz hl)
theorem rn_lload_n (q : Nat) {j : Fin 4} {x : Int64} (hd : decode (mC M) pc = .ok (.lload_n j, 1)) (hq : pc + 1 = q) (hg : lvG lv j = some (.long x)) (k : Rn G M cu q lv (.long x :: st) h post) : Rn G M cu pc lv st h post := by
  subst hq
  intro p e s m args below meth c H locs Q ls C Y hR hS hz hl
  exact lv_lload_n C.1 C.2.1 hd rfl (lv_get hl hg) (k p e s m args below meth c H locs Q ls C Y hR hS hz hl)
theorem rn_lload (q : Nat) {j : Nat} {x : Int64} (hd : decode (mC M) pc = .ok (.lload j, 2)) (hq : pc + 2 = q) (hg : lvG lv j = some (.long x)) (k : Rn G M cu q lv (.long x :: st) h post) : Rn G M cu pc lv st h post := by
  subst hq
  intro p e s m args below meth c H locs Q ls C Y hR hS hz hl
  exact lv_lload C.1 C.2.1 hd (lv_get hl hg) (k p e s m args below meth c H locs Q ls C Y hR hS hz hl)
theorem rn_aload_n (q : Nat) {j : Fin 4} {x : Nat} (hd : decode (mC M) pc = .ok (.aload_n j, 1)) (hq : pc + 1 = q) (hg : lvG lv j = some (.ref x)) (k : Rn G M cu q lv (.ref x :: st) h post) : Rn G M cu pc lv st h post := by
  subst hq
  intro p e s m args below meth c H locs Q ls C Y hR hS hz hl
  exact lv_aload_n C.1 C.2.1 hd rfl (lv_get hl hg) (k p e s m args below meth c H locs Q ls C Y hR hS hz hl)
theorem rn_aload (q : Nat) {j : Nat} {x : Nat} (hd : decode (mC M) pc = .ok (.aload j, 2)) (hq : pc + 2 = q) (hg : lvG lv j = some (.ref x)) (k : Rn G M cu q lv (.ref x :: st) h post) : Rn G M cu pc lv st h post := by
  subst hq
  intro p e s m args below meth c H locs Q ls C Y hR hS hz hl
  exact lv_aload C.1 C.2.1 hd (lv_get hl hg) (k p e s m args below meth c H locs Q ls C Y hR hS hz hl)
theorem rn_istore_n (q : Nat) {j : Fin 4} {x : Int32} (hd : decode (mC M) pc = .ok (.istore_n j, 1)) (hq : pc + 1 = q) (hn : (j : Nat) < mL M) (hv : lvP (lv.filter (lvF1 j)) j (.int x) = lv') (k : Rn G M cu q lv' st h post) : Rn G M cu pc lv (.int x :: st) h post := by
  subst hq
  subst hv
  intro p e s m args below meth c H locs Q ls C Y hR hS hz hl
  exact lv_istore_n C.1 C.2.1 hd rfl hl hn rfl (fun ls hl => k p e s m args below meth c H locs Q ls C Y hR hS hz (lv_put hl))
theorem rn_istore (q : Nat) {j : Nat} {x : Int32} (hd : decode (mC M) pc = .ok (.istore j, 2)) (hq : pc + 2 = q) (hn : j < mL M) (hv : lvP (lv.filter (lvF1 j)) j (.int x) = lv') (k : Rn G M cu q lv' st h post) : Rn G M cu pc lv (.int x :: st) h post := by
  subst hq
  subst hv
  intro p e s m args below meth c H locs Q ls C Y hR hS hz hl
  exact lv_istore C.1 C.2.1 hd hl hn rfl (fun ls hl => k p e s m args below meth c H locs Q ls C Y hR hS hz (lv_put hl))
theorem rn_astore_n (q : Nat) {j : Fin 4} {x : Nat} (hd : decode (mC M) pc = .ok (.astore_n j, 1)) (hq : pc + 1 = q) (hn : (j : Nat) < mL M) (hv : lvP (lv.filter (lvF1 j)) j (.ref x) = lv') (k : Rn G M cu q lv' st h post) : Rn G M cu pc lv (.ref x :: st) h post := by
  subst hq
  subst hv
  intro p e s m args below meth c H locs Q ls C Y hR hS hz hl
  exact lv_astore_n C.1 C.2.1 hd rfl hl hn rfl (fun ls hl => k p e s m args below meth c H locs Q ls C Y hR hS hz (lv_put hl))
theorem rn_astore (q : Nat) {j : Nat} {x : Nat} (hd : decode (mC M) pc = .ok (.astore j, 2)) (hq : pc + 2 = q) (hn : j < mL M) (hv : lvP (lv.filter (lvF1 j)) j (.ref x) = lv') (k : Rn G M cu q lv' st h post) : Rn G M cu pc lv (.ref x :: st) h post := by
  subst hq
  subst hv
  intro p e s m args below meth c H locs Q ls C Y hR hS hz hl
  exact lv_astore C.1 C.2.1 hd hl hn rfl (fun ls hl => k p e s m args below meth c H locs Q ls C Y hR hS hz (lv_put hl))
theorem rn_lstore_n (q : Nat) {j : Fin 4} {x : Int64} (hd : decode (mC M) pc = .ok (.lstore_n j, 1)) (hq : pc + 1 = q) (hn : (j : Nat) + 1 < mL M) (hv : lvP (lv.filter (lvF2 j)) j (.long x) = lv') (k : Rn G M cu q lv' st h post) : Rn G M cu pc lv (.long x :: st) h post := by
  subst hq
  subst hv
  intro p e s m args below meth c H locs Q ls C Y hR hS hz hl
  exact lv_lstore_n C.1 C.2.1 hd rfl hl hn rfl (fun ls hl => k p e s m args below meth c H locs Q ls C Y hR hS hz (lv_put hl))
theorem rn_lstore (q : Nat) {j : Nat} {x : Int64} (hd : decode (mC M) pc = .ok (.lstore j, 2)) (hq : pc + 2 = q) (hn : j + 1 < mL M) (hv : lvP (lv.filter (lvF2 j)) j (.long x) = lv') (k : Rn G M cu q lv' st h post) : Rn G M cu pc lv (.long x :: st) h post := by
  subst hq
  subst hv
  intro p e s m args below meth c H locs Q ls C Y hR hS hz hl
  exact lv_lstore C.1 C.2.1 hd hl hn rfl (fun ls hl => k p e s m args below meth c H locs Q ls C Y hR hS hz (lv_put hl))
theorem rn_iinc (q : Nat) {j : Nat} {n : Int} {x v : Int32} (hd : decode (mC M) pc = .ok (.iinc j n, 3)) (hq : pc + 3 = q) (hn : j < mL M) (hg : lvG lv j = some (.int x)) (hx : x + Int32.ofInt n = v) (hv : lvP (lv.filter (lvF1 j)) j (.int v) = lv') (k : Rn G M cu q lv' st h post) : Rn G M cu pc lv st h post := by
  subst hq
  subst hv
  intro p e s m args below meth c H locs Q ls C Y hR hS hz hl
  obtain ⟨i, hi⟩ := List.getElem?_of_mem (lvG_mem hg)
  exact lv_iinc C.1 C.2.1 hd hl hi hx hn rfl (fun ls hl => k p e s m args below meth c H locs Q ls C Y hR hS hz (lv_put hl))
theorem rn_iadd (q : Nat) {x y : Int32} (hd : decode (mC M) pc = .ok (.iadd, 1)) (hq : pc + 1 = q) (k : Rn G M cu q lv (.int (x + y) :: st) h post) : Rn G M cu pc lv (.int y :: .int x :: st) h post := by
  subst hq
  intro p e s m args below meth c H locs Q ls C Y hR hS hz hl
  exact lv_iadd C.1 C.2.1 hd (k p e s m args below meth c H locs Q ls C Y hR hS hz hl)
theorem rn_isub (q : Nat) {x y : Int32} (hd : decode (mC M) pc = .ok (.isub, 1)) (hq : pc + 1 = q) (k : Rn G M cu q lv (.int (x - y) :: st) h post) : Rn G M cu pc lv (.int y :: .int x :: st) h post := by
  subst hq
  intro p e s m args below meth c H locs Q ls C Y hR hS hz hl
  exact lv_isub C.1 C.2.1 hd (k p e s m args below meth c H locs Q ls C Y hR hS hz hl)
theorem rn_imul (q : Nat) {x y : Int32} (hd : decode (mC M) pc = .ok (.imul, 1)) (hq : pc + 1 = q) (k : Rn G M cu q lv (.int (x * y) :: st) h post) : Rn G M cu pc lv (.int y :: .int x :: st) h post := by
  subst hq
  intro p e s m args below meth c H locs Q ls C Y hR hS hz hl
  exact lv_imul C.1 C.2.1 hd (k p e s m args below meth c H locs Q ls C Y hR hS hz hl)
theorem rn_iand (q : Nat) {x y : Int32} (hd : decode (mC M) pc = .ok (.iand, 1)) (hq : pc + 1 = q) (k : Rn G M cu q lv (.int (x &&& y) :: st) h post) : Rn G M cu pc lv (.int y :: .int x :: st) h post := by
  subst hq
  intro p e s m args below meth c H locs Q ls C Y hR hS hz hl
  exact lv_iand C.1 C.2.1 hd (k p e s m args below meth c H locs Q ls C Y hR hS hz hl)
theorem rn_ior (q : Nat) {x y : Int32} (hd : decode (mC M) pc = .ok (.ior, 1)) (hq : pc + 1 = q) (k : Rn G M cu q lv (.int (x ||| y) :: st) h post) : Rn G M cu pc lv (.int y :: .int x :: st) h post := by
  subst hq
  intro p e s m args below meth c H locs Q ls C Y hR hS hz hl
  exact lv_ior C.1 C.2.1 hd (k p e s m args below meth c H locs Q ls C Y hR hS hz hl)
theorem rn_ixor (q : Nat) {x y : Int32} (hd : decode (mC M) pc = .ok (.ixor, 1)) (hq : pc + 1 = q) (k : Rn G M cu q lv (.int (x ^^^ y) :: st) h post) : Rn G M cu pc lv (.int y :: .int x :: st) h post := by
  subst hq
  intro p e s m args below meth c H locs Q ls C Y hR hS hz hl
  exact lv_ixor C.1 C.2.1 hd (k p e s m args below meth c H locs Q ls C Y hR hS hz hl)
theorem rn_ishl (q : Nat) {x y : Int32} (hd : decode (mC M) pc = .ok (.ishl, 1)) (hq : pc + 1 = q) (k : Rn G M cu q lv (.int (x <<< (y &&& 31)) :: st) h post) : Rn G M cu pc lv (.int y :: .int x :: st) h post := by
  subst hq
  intro p e s m args below meth c H locs Q ls C Y hR hS hz hl
  exact lv_ishl C.1 C.2.1 hd (k p e s m args below meth c H locs Q ls C Y hR hS hz hl)
theorem rn_ishr (q : Nat) {x y : Int32} (hd : decode (mC M) pc = .ok (.ishr, 1)) (hq : pc + 1 = q) (k : Rn G M cu q lv (.int (x >>> (y &&& 31)) :: st) h post) : Rn G M cu pc lv (.int y :: .int x :: st) h post := by
  subst hq
  intro p e s m args below meth c H locs Q ls C Y hR hS hz hl
  exact lv_ishr C.1 C.2.1 hd (k p e s m args below meth c H locs Q ls C Y hR hS hz hl)
theorem rn_idiv (q : Nat) {x y : Int32} (hd : decode (mC M) pc = .ok (.idiv, 1)) (hq : pc + 1 = q) (hne : ¬ y = 0) (k : Rn G M cu q lv (.int (x / y) :: st) h post) : Rn G M cu pc lv (.int y :: .int x :: st) h post := by
  subst hq
  intro p e s m args below meth c H locs Q ls C Y hR hS hz hl
  exact lv_idiv C.1 C.2.1 hd hne (k p e s m args below meth c H locs Q ls C Y hR hS hz hl)
theorem rn_irem (q : Nat) {x y : Int32} (hd : decode (mC M) pc = .ok (.irem, 1)) (hq : pc + 1 = q) (hne : ¬ y = 0) (k : Rn G M cu q lv (.int (x - x / y * y) :: st) h post) : Rn G M cu pc lv (.int y :: .int x :: st) h post := by
  subst hq
  intro p e s m args below meth c H locs Q ls C Y hR hS hz hl
  exact lv_irem C.1 C.2.1 hd hne (k p e s m args below meth c H locs Q ls C Y hR hS hz hl)
theorem rn_ladd (q : Nat) {x y : Int64} (hd : decode (mC M) pc = .ok (.ladd, 1)) (hq : pc + 1 = q) (k : Rn G M cu q lv (.long (x + y) :: st) h post) : Rn G M cu pc lv (.long y :: .long x :: st) h post := by
  subst hq
  intro p e s m args below meth c H locs Q ls C Y hR hS hz hl
  exact lv_ladd C.1 C.2.1 hd (k p e s m args below meth c H locs Q ls C Y hR hS hz hl)
theorem rn_lmul (q : Nat) {x y : Int64} (hd : decode (mC M) pc = .ok (.lmul, 1)) (hq : pc + 1 = q) (k : Rn G M cu q lv (.long (x * y) :: st) h post) : Rn G M cu pc lv (.long y :: .long x :: st) h post := by
  subst hq
  intro p e s m args below meth c H locs Q ls C Y hR hS hz hl
  exact lv_lmul C.1 C.2.1 hd (k p e s m args below meth c H locs Q ls C Y hR hS hz hl)
theorem rn_ldiv (q : Nat) {x y : Int64} (hd : decode (mC M) pc = .ok (.ldiv, 1)) (hq : pc + 1 = q) (hne : ¬ y = 0) (k : Rn G M cu q lv (.long (x / y) :: st) h post) : Rn G M cu pc lv (.long y :: .long x :: st) h post := by
  subst hq
  intro p e s m args below meth c H locs Q ls C Y hR hS hz hl
  exact lv_ldiv C.1 C.2.1 hd hne (k p e s m args below meth c H locs Q ls C Y hR hS hz hl)
theorem rn_lrem (q : Nat) {x y : Int64} (hd : decode (mC M) pc = .ok (.lrem, 1)) (hq : pc + 1 = q) (hne : ¬ y = 0) (k : Rn G M cu q lv (.long (x - x / y * y) :: st) h post) : Rn G M cu pc lv (.long y :: .long x :: st) h post := by
  subst hq
  intro p e s m args below meth c H locs Q ls C Y hR hS hz hl
  exact lv_lrem C.1 C.2.1 hd hne (k p e s m args below meth c H locs Q ls C Y hR hS hz hl)
theorem rn_i2l (q : Nat) {x : Int32} (hd : decode (mC M) pc = .ok (.i2l, 1)) (hq : pc + 1 = q) (k : Rn G M cu q lv (.long x.toInt64 :: st) h post) : Rn G M cu pc lv (.int x :: st) h post := by
  subst hq
  intro p e s m args below meth c H locs Q ls C Y hR hS hz hl
  exact lv_i2l C.1 C.2.1 hd rfl (k p e s m args below meth c H locs Q ls C Y hR hS hz hl)
theorem rn_l2i (q : Nat) {x : Int64} (hd : decode (mC M) pc = .ok (.l2i, 1)) (hq : pc + 1 = q) (k : Rn G M cu q lv (.int x.toInt32 :: st) h post) : Rn G M cu pc lv (.long x :: st) h post := by
  subst hq
  intro p e s m args below meth c H locs Q ls C Y hR hS hz hl
  exact lv_l2i C.1 C.2.1 hd rfl (k p e s m args below meth c H locs Q ls C Y hR hS hz hl)
theorem rn_i2c (q : Nat) {x : Int32} (hd : decode (mC M) pc = .ok (.i2c, 1)) (hq : pc + 1 = q) (k : Rn G M cu q lv (.int (x.toUInt32 % 65536).toInt32 :: st) h post) : Rn G M cu pc lv (.int x :: st) h post := by
  subst hq
  intro p e s m args below meth c H locs Q ls C Y hR hS hz hl
  exact lv_i2c C.1 C.2.1 hd rfl (k p e s m args below meth c H locs Q ls C Y hR hS hz hl)
theorem rn_pop (q : Nat) {a : Value} (hd : decode (mC M) pc = .ok (.pop, 1)) (hq : pc + 1 = q) (ha : a.category = 1) (k : Rn G M cu q lv st h post) : Rn G M cu pc lv (a :: st) h post := by
  subst hq
  intro p e s m args below meth c H locs Q ls C Y hR hS hz hl
  exact lv_pop C.1 C.2.1 hd ha (k p e s m args below meth c H locs Q ls C Y hR hS hz hl)
theorem rn_dup (q : Nat) {a : Value} (hd : decode (mC M) pc = .ok (.dup, 1)) (hq : pc + 1 = q) (ha : a.category = 1) (k : Rn G M cu q lv (a :: a :: st) h post) : Rn G M cu pc lv (a :: st) h post := by
  subst hq
  intro p e s m args below meth c H locs Q ls C Y hR hS hz hl
  exact lv_dup C.1 C.2.1 hd ha (k p e s m args below meth c H locs Q ls C Y hR hS hz hl)
theorem rn_dup2 (q : Nat) {a b : Value} (hd : decode (mC M) pc = .ok (.dup2, 1)) (hq : pc + 1 = q) (ha : a.category = 1) (hb : b.category = 1) (k : Rn G M cu q lv (a :: b :: a :: b :: st) h post) : Rn G M cu pc lv (a :: b :: st) h post := by
  subst hq
  intro p e s m args below meth c H locs Q ls C Y hR hS hz hl
  exact lv_dup2_11 C.1 C.2.1 hd ha hb (k p e s m args below meth c H locs Q ls C Y hR hS hz hl)
theorem rn_if_eq (t q : Nat) {x : Int32} {off : Int} (hd : decode (mC M) pc = .ok (.ifCond .eq off, 3)) (ht : (pc : Int) + off = (t : Int)) (hq : pc + 3 = q) (kt : x = 0 → Rn G M cu t lv st h post) (kf : ¬ x = 0 → Rn G M cu q lv st h post) : Rn G M cu pc lv (.int x :: st) h post := by
  subst hq
  intro p e s m args below meth c H locs Q ls C Y hR hS hz hl
  exact lv_if_eq C.1 C.2.1 hd ht (fun z => kt z p e s m args below meth c H locs Q ls C Y hR hS hz hl) (fun z => kf z p e s m args below meth c H locs Q ls C Y hR hS hz hl)
theorem rn_icmp_eq (t q : Nat) {x y : Int32} {off : Int} (hd : decode (mC M) pc = .ok (.if_icmp .eq off, 3)) (ht : (pc : Int) + off = (t : Int)) (hq : pc + 3 = q) (kt : x = y → Rn G M cu t lv st h post) (kf : ¬ x = y → Rn G M cu q lv st h post) : Rn G M cu pc lv (.int y :: .int x :: st) h post := by
  subst hq
  intro p e s m args below meth c H locs Q ls C Y hR hS hz hl
  exact lv_icmp_eq C.1 C.2.1 hd ht (fun z => kt z p e s m args below meth c H locs Q ls C Y hR hS hz hl) (fun z => kf z p e s m args below meth c H locs Q ls C Y hR hS hz hl)
theorem rn_if_ne (t q : Nat) {x : Int32} {off : Int} (hd : decode (mC M) pc = .ok (.ifCond .ne off, 3)) (ht : (pc : Int) + off = (t : Int)) (hq : pc + 3 = q) (kt : ¬ x = 0 → Rn G M cu t lv st h post) (kf : x = 0 → Rn G M cu q lv st h post) : Rn G M cu pc lv (.int x :: st) h post := by
  subst hq
  intro p e s m args below meth c H locs Q ls C Y hR hS hz hl
  exact lv_if_ne C.1 C.2.1 hd ht (fun z => kt z p e s m args below meth c H locs Q ls C Y hR hS hz hl) (fun z => kf z p e s m args below meth c H locs Q ls C Y hR hS hz hl)
theorem rn_icmp_ne (t q : Nat) {x y : Int32} {off : Int} (hd : decode (mC M) pc = .ok (.if_icmp .ne off, 3)) (ht : (pc : Int) + off = (t : Int)) (hq : pc + 3 = q) (kt : ¬ x = y → Rn G M cu t lv st h post) (kf : x = y → Rn G M cu q lv st h post) : Rn G M cu pc lv (.int y :: .int x :: st) h post := by
  subst hq
  intro p e s m args below meth c H locs Q ls C Y hR hS hz hl
  exact lv_icmp_ne C.1 C.2.1 hd ht (fun z => kt z p e s m args below meth c H locs Q ls C Y hR hS hz hl) (fun z => kf z p e s m args below meth c H locs Q ls C Y hR hS hz hl)
theorem rn_if_lt (t q : Nat) {x : Int32} {off : Int} (hd : decode (mC M) pc = .ok (.ifCond .lt off, 3)) (ht : (pc : Int) + off = (t : Int)) (hq : pc + 3 = q) (kt : x < 0 → Rn G M cu t lv st h post) (kf : ¬ x < 0 → Rn G M cu q lv st h post) : Rn G M cu pc lv (.int x :: st) h post := by
  subst hq
  intro p e s m args below meth c H locs Q ls C Y hR hS hz hl
  exact lv_if_lt C.1 C.2.1 hd ht (fun z => kt z p e s m args below meth c H locs Q ls C Y hR hS hz hl) (fun z => kf z p e s m args below meth c H locs Q ls C Y hR hS hz hl)
theorem rn_icmp_lt (t q : Nat) {x y : Int32} {off : Int} (hd : decode (mC M) pc = .ok (.if_icmp .lt off, 3)) (ht : (pc : Int) + off = (t : Int)) (hq : pc + 3 = q) (kt : x < y → Rn G M cu t lv st h post) (kf : ¬ x < y → Rn G M cu q lv st h post) : Rn G M cu pc lv (.int y :: .int x :: st) h post := by
  subst hq
  intro p e s m args below meth c H locs Q ls C Y hR hS hz hl
  exact lv_icmp_lt C.1 C.2.1 hd ht (fun z => kt z p e s m args below meth c H locs Q ls C Y hR hS hz hl) (fun z => kf z p e s m args below meth c H locs Q ls C Y hR hS hz hl)
theorem rn_if_ge (t q : Nat) {x : Int32} {off : Int} (hd : decode (mC M) pc = .ok (.ifCond .ge off, 3)) (ht : (pc : Int) + off = (t : Int)) (hq : pc + 3 = q) (kt : 0 ≤ x → Rn G M cu t lv st h post) (kf : ¬ 0 ≤ x → Rn G M cu q lv st h post) : Rn G M cu pc lv (.int x :: st) h post := by
  subst hq
  intro p e s m args below meth c H locs Q ls C Y hR hS hz hl
  exact lv_if_ge C.1 C.2.1 hd ht (fun z => kt z p e s m args below meth c H locs Q ls C Y hR hS hz hl) (fun z => kf z p e s m args below meth c H locs Q ls C Y hR hS hz hl)
theorem rn_icmp_ge (t q : Nat) {x y : Int32} {off : Int} (hd : decode (mC M) pc = .ok (.if_icmp .ge off, 3)) (ht : (pc : Int) + off = (t : Int)) (hq : pc + 3 = q) (kt : y ≤ x → Rn G M cu t lv st h post) (kf : ¬ y ≤ x → Rn G M cu q lv st h post) : Rn G M cu pc lv (.int y :: .int x :: st) h post := by
  subst hq
  intro p e s m args below meth c H locs Q ls C Y hR hS hz hl
  exact lv_icmp_ge C.1 C.2.1 hd ht (fun z => kt z p e s m args below meth c H locs Q ls C Y hR hS hz hl) (fun z => kf z p e s m args below meth c H locs Q ls C Y hR hS hz hl)
theorem rn_if_gt (t q : Nat) {x : Int32} {off : Int} (hd : decode (mC M) pc = .ok (.ifCond .gt off, 3)) (ht : (pc : Int) + off = (t : Int)) (hq : pc + 3 = q) (kt : 0 < x → Rn G M cu t lv st h post) (kf : ¬ 0 < x → Rn G M cu q lv st h post) : Rn G M cu pc lv (.int x :: st) h post := by
  subst hq
  intro p e s m args below meth c H locs Q ls C Y hR hS hz hl
  exact lv_if_gt C.1 C.2.1 hd ht (fun z => kt z p e s m args below meth c H locs Q ls C Y hR hS hz hl) (fun z => kf z p e s m args below meth c H locs Q ls C Y hR hS hz hl)
theorem rn_icmp_gt (t q : Nat) {x y : Int32} {off : Int} (hd : decode (mC M) pc = .ok (.if_icmp .gt off, 3)) (ht : (pc : Int) + off = (t : Int)) (hq : pc + 3 = q) (kt : y < x → Rn G M cu t lv st h post) (kf : ¬ y < x → Rn G M cu q lv st h post) : Rn G M cu pc lv (.int y :: .int x :: st) h post := by
  subst hq
  intro p e s m args below meth c H locs Q ls C Y hR hS hz hl
  exact lv_icmp_gt C.1 C.2.1 hd ht (fun z => kt z p e s m args below meth c H locs Q ls C Y hR hS hz hl) (fun z => kf z p e s m args below meth c H locs Q ls C Y hR hS hz hl)
theorem rn_if_le (t q : Nat) {x : Int32} {off : Int} (hd : decode (mC M) pc = .ok (.ifCond .le off, 3)) (ht : (pc : Int) + off = (t : Int)) (hq : pc + 3 = q) (kt : x ≤ 0 → Rn G M cu t lv st h post) (kf : ¬ x ≤ 0 → Rn G M cu q lv st h post) : Rn G M cu pc lv (.int x :: st) h post := by
  subst hq
  intro p e s m args below meth c H locs Q ls C Y hR hS hz hl
  exact lv_if_le C.1 C.2.1 hd ht (fun z => kt z p e s m args below meth c H locs Q ls C Y hR hS hz hl) (fun z => kf z p e s m args below meth c H locs Q ls C Y hR hS hz hl)
theorem rn_icmp_le (t q : Nat) {x y : Int32} {off : Int} (hd : decode (mC M) pc = .ok (.if_icmp .le off, 3)) (ht : (pc : Int) + off = (t : Int)) (hq : pc + 3 = q) (kt : x ≤ y → Rn G M cu t lv st h post) (kf : ¬ x ≤ y → Rn G M cu q lv st h post) : Rn G M cu pc lv (.int y :: .int x :: st) h post := by
  subst hq
  intro p e s m args below meth c H locs Q ls C Y hR hS hz hl
  exact lv_icmp_le C.1 C.2.1 hd ht (fun z => kt z p e s m args below meth c H locs Q ls C Y hR hS hz hl) (fun z => kf z p e s m args below meth c H locs Q ls C Y hR hS hz hl)
theorem rn_goto (t : Nat) {off : Int} (hd : decode (mC M) pc = .ok (.goto off, 3)) (ht : (pc : Int) + off = (t : Int)) (k : Rn G M cu t lv st h post) : Rn G M cu pc lv st h post := by
  intro p e s m args below meth c H locs Q ls C Y hR hS hz hl
  exact lv_goto C.1 C.2.1 hd ht (k p e s m args below meth c H locs Q ls C Y hR hS hz hl)
theorem rn_tabOut (t : Nat) {dflt lo hi : Int} {offs : Array Int} {len : Nat} {x : Int32} (hd : decode (mC M) pc = .ok (.tableswitch dflt lo hi offs, len)) (hx : x.toInt < lo ∨ hi < x.toInt) (ht : (pc : Int) + dflt = (t : Int)) (k : Rn G M cu t lv st h post) : Rn G M cu pc lv (.int x :: st) h post := by
  intro p e s m args below meth c H locs Q ls C Y hR hS hz hl
  exact lv_tableOut C.1 C.2.1 hd hx ht (k p e s m args below meth c H locs Q ls C Y hR hS hz hl)
theorem rn_tabIn (t : Nat) {dflt lo hi : Int} {offs : Array Int} {len : Nat} {x : Int32} {off : Int} (hd : decode (mC M) pc = .ok (.tableswitch dflt lo hi offs, len)) (h1 : ¬ x.toInt < lo) (h2 : ¬ hi < x.toInt) (ho : offs[(x.toInt - lo).toNat]? = some off) (ht : (pc : Int) + off = (t : Int)) (k : Rn G M cu t lv st h post) : Rn G M cu pc lv (.int x :: st) h post := by
  intro p e s m args below meth c H locs Q ls C Y hR hS hz hl
  exact lv_tableIn C.1 C.2.1 hd h1 h2 ho ht (k p e s m args below meth c H locs Q ls C Y hR hS hz hl)
theorem rn_ldc (q : Nat) {idx : Nat} {v : Int32} (hd : decode (mC M) pc = .ok (.ldc idx, 2)) (hq : pc + 2 = q) (hw : Cond.constant (mY M).cls idx v ∈ lw_g) (k : Rn G M cu q lv (.int v :: st) h post) : Rn G M cu pc lv st h post := by
  subst hq
  intro p e s m args below meth c H locs Q ls C Y hR hS hz hl
  exact lv_ldc C.1 C.2.1 C.2.2.2.2.2.1 (C.2.2.2.2.2.2.1 _ hw) hd (k p e s m args below meth c H locs Q ls C Y hR hS hz hl)
theorem rn_ldc2 (q : Nat) {idx : Nat} {v : Int64} (hd : decode (mC M) pc = .ok (.ldc2_w idx, 3)) (hq : pc + 3 = q) (hw : Cond.constantLong (mY M).cls idx v ∈ lw_g) (k : Rn G M cu q lv (.long v :: st) h post) : Rn G M cu pc lv st h post := by
  subst hq
  intro p e s m args below meth c H locs Q ls C Y hR hS hz hl
  exact lv_ldc2 C.1 C.2.1 C.2.2.2.2.2.1 (C.2.2.2.2.2.2.1 _ hw) hd (k p e s m args below meth c H locs Q ls C Y hR hS hz hl)
theorem rn_lcmp (q : Nat) {x y : Int64} (hd : decode (mC M) pc = .ok (.lcmp, 1)) (hq : pc + 1 = q) (k : Rn G M cu q lv (.int (lg_cmp x y) :: st) h post) : Rn G M cu pc lv (.long y :: .long x :: st) h post := by
  subst hq
  intro p e s m args below meth c H locs Q ls C Y hR hS hz hl
  exact W.lcmp C.1 C.2.1 hd (k p e s m args below meth c H locs Q ls C Y hR hS hz hl)
/-- the string constants: their address, their length, their bytes -/
theorem rn_ldcS (q i : Nat) (hd : decode (mC M) pc = .ok (.ldc (stK.getD i 0), 2)) (hq : pc + 2 = q) (hi : i < 8) (ho : (mY M).cls = RX1) (k : Rn G M cu q lv (.ref (gK G i) :: st) h post) : Rn G M cu pc lv st h post := by
  subst hq
  intro p e s m args below meth c H locs Q ls C Y hR hS hz hl
  exact va_ldcS C.1 C.2.1 (by rw [← ho]; exact C.2.2.2.2.2.1) (C.2.2.2.2.2.2.2.1.2.2.2.2.2.1 i hi) hd (k p e s m args below meth c H locs Q ls C Y hR hS hz hl)
theorem rn_sCoder (q i : Nat) {idx : Nat} (hd : decode (mC M) pc = .ok (.getfield idx, 3)) (hq : pc + 3 = q) (hi : i < 8) (hw : Cond.fieldLink (mY M).cls idx "java/lang/String" "coder" "B" ∈ lw_g) (k : Rn G M cu q lv (.int 0 :: st) h post) : Rn G M cu pc lv (.ref (gK G i) :: st) h post := by
  subst hq
  intro p e s m args below meth c H locs Q ls C Y hR hS hz hl
  exact vk_getf C.1 C.2.1 (C.2.2.2.2.2.2.2.1.2.2.2.2.1.1 i hi).2.1 hS C.2.2.2.2.2.1 (C.2.2.2.2.2.2.1 _ hw) (fun _ z => z) hd (k p e s m args below meth c H locs Q ls C Y hR hS hz hl)
theorem rn_sValue (q i : Nat) {idx : Nat} (hd : decode (mC M) pc = .ok (.getfield idx, 3)) (hq : pc + 3 = q) (hi : i < 8) (hw : Cond.fieldLink (mY M).cls idx "java/lang/String" "value" "[B" ∈ lw_g) (k : Rn G M cu q lv (.ref (gV G i) :: st) h post) : Rn G M cu pc lv (.ref (gK G i) :: st) h post := by
  subst hq
  intro p e s m args below meth c H locs Q ls C Y hR hS hz hl
  exact vk_getf C.1 C.2.1 (C.2.2.2.2.2.2.2.1.2.2.2.2.1.1 i hi).2.2.1 hS C.2.2.2.2.2.1 (C.2.2.2.2.2.2.1 _ hw) (fun _ z => z) hd (k p e s m args below meth c H locs Q ls C Y hR hS hz hl)
theorem rn_sLen (q i : Nat) (hd : decode (mC M) pc = .ok (.arraylength, 1)) (hq : pc + 1 = q) (hi : i < 8) (k : Rn G M cu q lv (.int (nI (stL.getD i 0)) :: st) h post) : Rn G M cu pc lv (.ref (gV G i) :: st) h post := by
  subst hq
  intro p e s m args below meth c H locs Q ls C Y hR hS hz hl
  exact va_tlen C.1 C.2.1 (C.2.2.2.2.2.2.2.1.2.2.2.2.1.1 i hi).2.2.2 hS rfl hd (k p e s m args below meth c H locs Q ls C Y hR hS hz hl)
theorem rn_sByte (q i : Nat) {x : Int32} (hd : decode (mC M) pc = .ok (.baload, 1)) (hq : pc + 1 = q) (hi : i < 8) (hx : vp_in x (stL.getD i 0)) (k : Rn G M cu q lv (.int ((stB.getD i []).getD x.toNatClampNeg 0) :: st) h post) : Rn G M cu pc lv (.int x :: .ref (gV G i) :: st) h post := by
  subst hq
  intro p e s m args below meth c H locs Q ls C Y hR hS hz hl
  exact va_tb C.1 C.2.1 (C.2.2.2.2.2.2.2.1.2.2.2.2.1.1 i hi).2.2.2 hS hx rfl hd (k p e s m args below meth c H locs Q ls C Y hR hS hz hl)
theorem rn_compact (q : Nat) {idx : Nat} (hd : decode (mC M) pc = .ok (.getstatic idx, 3)) (hq : pc + 3 = q) (hw : Cond.fieldLink (mY M).cls idx "java/lang/String" "COMPACT_STRINGS" "Z" ∈ lw_g) (k : Rn G M cu q lv (.int 1 :: st) h post) : Rn G M cu pc lv st h post := by
  subst hq
  intro p e s m args below meth c H locs Q ls C Y hR hS hz hl
  exact va_gets C.1 C.2.1 C.2.2.2.2.2.2.2.1.2.2.2.2.2.2.1.1 hS C.2.2.2.2.2.1 (C.2.2.2.2.2.2.1 _ hw) (fun _ z => z) hd (k p e s m args below meth c H locs Q ls C Y hR hS hz hl)
theorem rn_former (q : Nat) {idx : Nat} (hd : decode (mC M) pc = .ok (.getstatic idx, 3)) (hq : pc + 3 = q) (hw : Cond.fieldLink (mY M).cls idx "jdk/internal/util/Preconditions" "SIOOBE_FORMATTER" "Ljava/util/function/BiFunction;" ∈ lw_g) (k : ∀ v : Value, v.category = 1 → Rn G M cu q lv (v :: st) h post) : Rn G M cu pc lv st h post := by
  subst hq
  intro p e s m args below meth c H locs Q ls C Y hR hS hz hl
  rcases C.2.2.2.2.2.2.2.1.2.2.2.2.2.2.1.2 with z | ⟨t, z⟩
  · exact va_gets C.1 C.2.1 z hS C.2.2.2.2.2.1 (C.2.2.2.2.2.2.1 _ hw) (fun _ z => z) hd (k .null rfl p e s m args below meth c H locs Q ls C Y hR hS hz hl)
  · exact va_gets C.1 C.2.1 z hS C.2.2.2.2.2.1 (C.2.2.2.2.2.2.1 _ hw) (fun _ z => z) hd (k (.ref t) rfl p e s m args below meth c H locs Q ls C Y hR hS hz hl)
/-- the script -/
theorem rn_scr (q : Nat) {x : Int32} (hd : decode (mC M) pc = .ok (.iaload, 1)) (hq : pc + 1 = q) (hx : vp_in x (gLn G)) (k : Rn G M cu q lv (.int (gXs G x.toNatClampNeg) :: st) h post) : Rn G M cu pc lv (.int x :: .ref (gB G) :: st) h post := by
  subst hq
  intro p e s m args below meth c H locs Q ls C Y hR hS hz hl
  have hw := C.2.2.2.2.2.2.2.1
  exact va_sld C.1 C.2.1 hw.2.2.2.1 (by have := hw.1; have := hw.2.2.1; omega) (Nat.not_le.mpr hw.2.2.1) hS hx hd (k p e s m args below meth c H locs Q ls C Y hR hS hz hl)
theorem rn_scrLen (q : Nat) (hd : decode (mC M) pc = .ok (.arraylength, 1)) (hq : pc + 1 = q) (k : Rn G M cu q lv (.int (nI (gLn G)) :: st) h post) : Rn G M cu pc lv (.ref (gB G) :: st) h post := by
  subst hq
  intro p e s m args below meth c H locs Q ls C Y hR hS hz hl
  have hw := C.2.2.2.2.2.2.2.1
  exact va_slen C.1 C.2.1 hw.2.2.2.1 (by have := hw.1; have := hw.2.2.1; omega) (Nat.not_le.mpr hw.2.2.1) hS hd (k p e s m args below meth c H locs Q ls C Y hR hS hz hl)
/-- the class of number ci, as the tables have it; its field k by the pool's place idx of the class own -/
def FL (own : String) (idx ci k : Nat) : Prop := ∃ r : vw_C, vwCl[ci]? = some r ∧ k < r.2.2 ∧ Cond.fieldLink own idx (r.2.1 k).1 (r.2.1 k).2.1 (r.2.1 k).2.2.1 ∈ lw_g
theorem cl_ok : ∀ (ci : Nat) (r : vw_C), vwCl[ci]? = some r → ci < 6 ∧ r.2.2 = nfO ci ∧ (∀ w ∈ u_ws r.1 r.2.1 r.2.2, w ∈ lw_g) ∧ (∀ k, k < r.2.2 → parseFieldDescriptor (r.2.1 k).2.2.1 = some (tyO ci k)) ∧ (∀ a, a < r.2.2 → ∀ b, b < r.2.2 → a ≠ b → (r.2.1 a).2.1 ≠ (r.2.1 b).2.1) := by
  intro ci r hr
  match ci, hr with
  | 0, hr => cases hr; exact ⟨by decide, rfl, by decide +kernel, tyX0_ok, nmX0⟩
  | 1, hr => cases hr; exact ⟨by decide, rfl, by decide +kernel, tyX1_ok, nmX1⟩
  | 2, hr => cases hr; exact ⟨by decide, rfl, by decide +kernel, tyX2_ok, nmX2⟩
  | 3, hr => cases hr; exact ⟨by decide, rfl, by decide +kernel, tyX3_ok, nmX3⟩
  | 4, hr => cases hr; exact ⟨by decide, rfl, by decide +kernel, tyX4_ok, nmX4⟩
  | 5, hr => cases hr; exact ⟨by decide, rfl, by decide +kernel, tyX5_ok, nmX5⟩
  | ci + 6, hr => simp [vwCl] at hr
theorem rdE_obj {G : WG} {h : AH} {o ci n : Nat} (hi : Is h o ci n) (hci : ci < 6) : rdE G h o = .inr (ci, (List.range (nfO ci)).map (rdF G h o ci)) := by
  unfold rdE
  rw [hi.2]
  have h1 : ¬ ci = 10 := by omega
  have h2 : ¬ ci = 11 := by omega
  have h3 : ¬ ci = 12 := by omega
  have h4 : ¬ ci = 13 := by omega
  simp only [h1, h2, h3, h4, if_false]
theorem rd_get {G : WG} {h : AH} {o ci k : Nat} (hk : k < nfO ci) : ((List.range (nfO ci)).map (rdF G h o ci))[k]? = some (rdF G h o ci k) := by
  rw [List.getElem?_map, List.getElem?_range hk]
  rfl
theorem rn_getf (q : Nat) {idx ci n k o : Nat} {v : Value} (hd : decode (mC M) pc = .ok (.getfield idx, 3)) (hq : pc + 3 = q) (hf : FL (mY M).cls idx ci k) (hi : Is h o ci n) (hv : rdF G h o ci k = v) (kk : Rn G M cu q lv (v :: st) h post) : Rn G M cu pc lv (.ref (ad G o) :: st) h post := by
  subst hq
  subst hv
  intro p e s m args below meth c H locs Q ls C Y hR hS hz hl
  obtain ⟨r, hr, hk, hw⟩ := hf
  obtain ⟨c1, c2, c3, c4, c5⟩ := cl_ok ci r hr
  have he := rdW_get (G := G) hi.1
  rw [rdE_obj hi c1] at he
  exact va_get (C := r.1) (T := r.2.1) (N := r.2.2) (Ts := lw_g) C.1 C.2.1 C.2.2.2.2.2.2.1 c3 C.2.2.2.2.2.1 C.2.2.2.2.2.2.2.1.2.1 hR o he hr k hk (C.2.2.2.2.2.2.1 _ hw) (fun _ z => z) (rd_get (by rw [← c2]; exact hk)) hd (kk p e s m args below meth c H locs Q ls C Y hR hS hz hl)
theorem rn_getI (q : Nat) {idx ci n k o : Nat} (hd : decode (mC M) pc = .ok (.getfield idx, 3)) (hq : pc + 3 = q) (hf : FL (mY M).cls idx ci k) (ht : ftc ci k = 0) (hi : Is h o ci n) (kk : Rn G M cu q lv (.int (hI h o k) :: st) h post) : Rn G M cu pc lv (.ref (ad G o) :: st) h post :=
  rn_getf q hd hq hf hi (by unfold rdF; rw [if_pos ht]) kk
theorem rn_getL (q : Nat) {idx ci n k o : Nat} (hd : decode (mC M) pc = .ok (.getfield idx, 3)) (hq : pc + 3 = q) (hf : FL (mY M).cls idx ci k) (ht : ftc ci k = 2) (hi : Is h o ci n) (kk : Rn G M cu q lv (.long (hL h o k) :: st) h post) : Rn G M cu pc lv (.ref (ad G o) :: st) h post :=
  rn_getf q hd hq hf hi (by unfold rdF; rw [ht]; rfl) kk
theorem rn_getR (q : Nat) {idx ci n k o : Nat} (o' : Nat) (hd : decode (mC M) pc = .ok (.getfield idx, 3)) (hq : pc + 3 = q) (hf : FL (mY M).cls idx ci k) (ht : ftc ci k = 1) (hi : Is h o ci n) (hr : hR h o k = some o') (kk : Rn G M cu q lv (.ref (ad G o') :: st) h post) : Rn G M cu pc lv (.ref (ad G o) :: st) h post :=
  rn_getf q hd hq hf hi (by unfold rdF; rw [ht, hr]; rfl) kk
/-- a put: the object's row, field by field -/
theorem rd_set {G : WG} {h h' : AH} {o ci k : Nat} {v : Value} (hk : k < nfO ci) (hs : rdF G h' o ci k = v) (hn : ∀ j, j ≠ k → rdF G h' o ci j = rdF G h o ci j) : ((List.range (nfO ci)).map (rdF G h o ci)).set k v = (List.range (nfO ci)).map (rdF G h' o ci) := by
  apply List.ext_getElem?
  intro j
  by_cases hj : j < nfO ci
  · by_cases hjk : j = k
    · subst hjk
      rw [List.getElem?_set_self (by simpa using hk), rd_get hj, hs]
    · rw [List.getElem?_set_ne (fun z => hjk z.symm), rd_get hj, rd_get hj, hn j hjk]
  · rw [List.getElem?_eq_none (by simp; omega), List.getElem?_eq_none (by simp; omega)]
theorem rn_putf (q : Nat) {idx ci n k o : Nat} {v : Value} {h' : AH} (hd : decode (mC M) pc = .ok (.putfield idx, 3)) (hq : pc + 3 = q) (hf : FL (mY M).cls idx ci k) (hfin : ((vwCl.getD ci ("", fun _ => ("", "", "", false), 0)).2.1 k).2.2.2 = false ∨ ((mY M).name = "<init>" ∧ ((vwCl.getD ci ("", fun _ => ("", "", "", false), 0)).2.1 k).2.2.2 = true ∧ ((vwCl.getD ci ("", fun _ => ("", "", "", false), 0)).2.1 k).1 = (mY M).cls)) (hi : Is h o ci n) (hn : narrow (tyO ci k) v = v) (hfit : fits (tyO ci k) v = true)
    (e1 : hN h' = hN h) (e2 : hS h' = hS h) (e3 : rdF G h' o ci k = v) (e4 : ∀ j, j ≠ k → rdF G h' o ci j = rdF G h o ci j) (e5 : ∀ j, j ≠ o → rdE G h' j = rdE G h j) (kk : Rn G M cu q lv st h' post) : Rn G M cu pc lv (v :: .ref (ad G o) :: st) h post := by
  subst hq
  intro p e s m args below meth c H locs Q ls C Y hR hS hz hl
  obtain ⟨r, hr, hk, hw⟩ := hf
  obtain ⟨c1, c2, c3, c4, c5⟩ := cl_ok ci r hr
  have hgd : vwCl.getD ci ("", fun _ => ("", "", "", false), 0) = r := by rw [List.getD_eq_getElem?_getD, hr]; rfl
  rw [hgd] at hfin
  have he := rdW_get (G := G) hi.1
  rw [rdE_obj hi c1] at he
  have hk2 : k < nfO ci := by rw [← c2]; exact hk
  have hset : (rdW G h).set o (ad G o, .inr (ci, ((List.range (nfO ci)).map (rdF G h o ci)).set k v)) = rdW G h' := by
    refine rdW_set hi.1 e1 ?_ e5
    rw [rdE_obj (n := n) ⟨by rw [e1]; exact hi.1, by rw [e2]; exact hi.2⟩ c1, rd_set hk2 e3 e4]
  have go : ∀ (H1 : Heap) (locs1 : List Loc), va_P (gD G) vwCl ((rdW G h).set o (ad G o, .inr (ci, ((List.range (nfO ci)).map (rdF G h o ci)).set k v))) H1 → va_D (gA G) ((rdW G h).set o (ad G o, .inr (ci, ((List.range (nfO ci)).map (rdF G h o ci)).set k v))) → va_S (gA G) s.heap H1 locs1 → W p (gl G) e (mR M) s m args below meth c H1 locs1 cu.1 cu.2 Q (F0 m (pc + 3) ls st) := by
    intro H1 locs1 hP1 _ hS1
    rw [hset] at hP1
    exact kk p e s m args below meth c H1 locs1 Q ls C Y hP1 hS1 (by rw [e1]; exact hz) hl
  rcases hfin with hfin | ⟨hin, hfin, hdecl⟩
  · exact va_put (C := r.1) (T := r.2.1) (N := r.2.2) (Ts := lw_g) C.1 C.2.1 C.2.2.2.2.2.2.1 c3 (tyO ci) c4 c5 C.2.2.2.2.2.1 C.2.2.2.2.2.2.2.1.2.1 hR (rdW_D G h) hS o he hr k hk (C.2.2.2.2.2.2.1 _ hw) (fun _ z => z) hfin (c4 k hk) hn hfit (by simpa using hk2) hd go
  · exact va_putF (C := r.1) (T := r.2.1) (N := r.2.2) (Ts := lw_g) C.1 C.2.1 C.2.2.2.2.2.2.1 c3 (tyO ci) c4 c5 C.2.2.2.2.2.1 C.2.2.2.2.2.2.2.1.2.1 hR (rdW_D G h) hS o he hr k hk (C.2.2.2.2.2.2.1 _ hw) (fun _ z => z) hfin (C.2.2.2.2.2.2.2.2.trans hin) hdecl (c4 k hk) hn hfit (by simpa using hk2) hd go

end RN
