/-! the decompiled methods' operations: none where the machine would throw -/
def FU : Nat := 1000
def OkA {α : Type} (x : Option α) (p : α → Prop) : Prop := ∃ a, x = some a ∧ p a
theorem ok_some {α : Type} {a : α} {p : α → Prop} (h : OkA (some a) p) : p a := by
  obtain ⟨b, e, hp⟩ := h
  cases e
  exact hp
theorem ok_none {α : Type} {p : α → Prop} : ¬ OkA (none : Option α) p := by
  rintro ⟨b, e, -⟩
  cases e
theorem ok_bind {α β : Type} {x : Option α} {f : α → Option β} {p : β → Prop} (h : OkA (Option.bind x f) p) : ∃ a, x = some a ∧ OkA (f a) p := by
  cases x with
  | none => exact absurd h ok_none
  | some a => exact ⟨a, rfl, h⟩
theorem ok_assoc {α β : Type} {x : Option α} {f : α → Option β} {p : β → Prop} {X : α → Prop} (h : OkA (Option.bind x f) p) (k : ∀ a, OkA (f a) p → X a) : OkA x X := by
  obtain ⟨a, e, h⟩ := ok_bind h
  exact ⟨a, e, k a h⟩
theorem ro_reg {α β : Type} {x : Option α} {f : α → Option β} {p : β → Prop} {X : α → Prop} {g : Prop} (h : OkA (Option.bind x f) p) (k : ∀ a, OkA (f a) p → X a) (k2 : OkA x X → g) : g := k2 (ok_assoc h k)
theorem ro_arm {β : Type} {c : Prop} [Decidable c] {a b : Option β} {p : β → Prop} {g : Prop} (h : OkA (if c then a else b) p) (kt : c → OkA a p → g) (kf : ¬ c → OkA b p → g) : g := by
  by_cases hc : c
  · rw [if_pos hc] at h
    exact kt hc h
  · rw [if_neg hc] at h
    exact kf hc h
def ckO (h : AH) (o ci : Nat) : Option Unit := if o < hN h ∧ hS h o = (ci, nfO ci) then some () else none
def gtI (h : AH) (o ci k : Nat) : Option Int32 := if o < hN h ∧ hS h o = (ci, nfO ci) then some (hI h o k) else none
def gtL (h : AH) (o ci k : Nat) : Option Int64 := if o < hN h ∧ hS h o = (ci, nfO ci) then some (hL h o k) else none
def gtR (h : AH) (o ci k : Nat) : Option Nat := if o < hN h ∧ hS h o = (ci, nfO ci) then hR h o k else none
def ptI (h : AH) (o ci k : Nat) (v : Int32) : Option AH := if o < hN h ∧ hS h o = (ci, nfO ci) then some (sI h o k v) else none
def ptZ (h : AH) (o ci k : Nat) (v : Int32) : Option AH := if (o < hN h ∧ hS h o = (ci, nfO ci)) ∧ (v = 0 ∨ v = 1) then some (sI h o k v) else none
def ptL (h : AH) (o ci k : Nat) (v : Int64) : Option AH := if o < hN h ∧ hS h o = (ci, nfO ci) then some (sL h o k v) else none
def ptR (h : AH) (o ci k : Nat) (v : Nat) : Option AH := if o < hN h ∧ hS h o = (ci, nfO ci) then some (sR h o k (some v)) else none
def inB (x : Int32) (n : Nat) : Bool := !(decide (x < 0)) && decide (x.toNatClampNeg < n)
theorem inB_in {x : Int32} {n : Nat} (h : inB x n = true) : vp_in x n := by
  unfold inB at h
  simp only [Bool.and_eq_true, Bool.not_eq_true', decide_eq_false_iff_not, decide_eq_true_eq] at h
  intro z
  rcases z with z | z
  · exact h.1 z
  · omega
def ldA (h : AH) (o t : Nat) (x : Int32) : Option Int32 := if (o < hN h ∧ (hS h o).1 = t) ∧ inB x (hS h o).2 = true then some (hI h o x.toNatClampNeg) else none
def stA (h : AH) (o t : Nat) (x v : Int32) : Option AH := if (o < hN h ∧ (hS h o).1 = t) ∧ inB x (hS h o).2 = true then some (sI h o x.toNatClampNeg v) else none
def ldR (h : AH) (o : Nat) (x : Int32) : Option Nat := if (o < hN h ∧ (hS h o).1 = 13) ∧ inB x (hS h o).2 = true then hR h o x.toNatClampNeg else none
def stR (h : AH) (o : Nat) (x : Int32) (v : Nat) : Option AH := if ((o < hN h ∧ (hS h o).1 = 13) ∧ inB x (hS h o).2 = true) ∧ (v < hN h ∧ hS h v = (3, 14)) then some (sR h o x.toNatClampNeg (some v)) else none
def lnA (h : AH) (o : Nat) : Option Int32 := if o < hN h ∧ (hS h o).1 = 10 then some (nI (hS h o).2) else none
def cpA (h : AH) (o1 : Nat) (sp : Int32) (o2 : Nat) (dp n : Int32) : Option AH := if ((o1 < hN h ∧ (hS h o1).1 = 10) ∧ (o2 < hN h ∧ (hS h o2).1 = 10)) ∧ ((¬ sp < 0 ∧ ¬ dp < 0 ∧ ¬ n < 0) ∧ (sp.toNatClampNeg + n.toNatClampNeg ≤ (hS h o1).2 ∧ dp.toNatClampNeg + n.toNatClampNeg ≤ (hS h o2).2)) then some (sA h o2 (va_cpy (hI h o1) (hI h o2) sp.toNatClampNeg dp.toNatClampNeg n.toNatClampNeg)) else none
def dvI (x y : Int32) : Option Int32 := if y = 0 then none else some (x / y)
def rmI (x y : Int32) : Option Int32 := if y = 0 then none else some (x - x / y * y)
def dvL (x y : Int64) : Option Int64 := if y = 0 then none else some (x / y)
def rmL (x y : Int64) : Option Int64 := if y = 0 then none else some (x - x / y * y)
def scr (ln : Nat) (xs : Nat → Int32) (x : Int32) : Option Int32 := if inB x ln = true then some (xs x.toNatClampNeg) else none
def sAt (i : Nat) (x : Int32) : Option Int32 := if inB x (stL.getD i 0) = true then some ((stB.getD i []).getD x.toNatClampNeg 0) else none
def bz (x : Int32) : Option Int32 := if x = 0 ∨ x = 1 then some x else none
def chI (x : Int32) : Int32 := (x.toUInt32 % 65536).toInt32
theorem Is.of {h : AH} {o t : Nat} (hc : o < hN h ∧ (hS h o).1 = t) : Is h o t (hS h o).2 := ⟨hc.1, by rw [← hc.2]⟩
theorem ok_ck2 {β : Type} {h : AH} {o ci : Nat} {f : Unit → Option β} {p : β → Prop} (hf : OkA (Option.bind (ckO h o ci) f) p) : Is h o ci (nfO ci) ∧ OkA (f ()) p := by
  obtain ⟨a, e, hf⟩ := ok_bind hf
  unfold ckO at e
  split at e
  next hc => exact ⟨hc, hf⟩
  next => cases e
theorem ok_ck {β : Type} {h : AH} {o ci : Nat} {f : Unit → Option β} {p : β → Prop} (hf : OkA (Option.bind (ckO h o ci) f) p) : Is h o ci (nfO ci) := (ok_ck2 hf).1
section RO
variable {G : WG} {M M' : MD} {cu : Nat × Nat} {pc : Nat} {lv lv' : List (Nat × Value)} {st : List Value} {h : AH} {post : PO} {β : Type} {P : β → Prop}
theorem rn_take (ps : List Nat) (hv : ps.filterMap (fun i => lv[i]?) = lv') (k : Rn G M cu pc lv' st h post) : Rn G M cu pc lv st h post := by
  refine rn_lv (fun q hq => ?_) k
  rw [← hv] at hq
  obtain ⟨i, -, hi⟩ := List.mem_filterMap.mp hq
  exact List.mem_of_getElem? hi
theorem ro_zret {x : Int32} {f : Int32 → Option β} (hd : decode (mC M) pc = .ok (.ireturn, 1)) (ht : mT M = some .boolean) (hx : xq M cu) (hf : OkA (Option.bind (bz x) f) P) (k : ∀ v, OkA (f v) P → post (some v) h) : Rn G M cu pc lv [.int x] h post := by
  obtain ⟨v, e, hf⟩ := ok_bind hf
  unfold bz at e
  split at e
  next hc =>
    cases e
    refine rn_iret .boolean hd ht ?_ hx (k _ hf)
    rcases hc with hc | hc <;> subst hc <;> rfl
  next => cases e
theorem ro_gtI (q : Nat) {idx ci k o : Nat} {f : Int32 → Option β} (hd : decode (mC M) pc = .ok (.getfield idx, 3)) (hq : pc + 3 = q) (hfl : FL (mY M).cls idx ci k) (ht : ftc ci k = 0) (hf : OkA (Option.bind (gtI h o ci k) f) P) (kk : ∀ v : Int32, OkA (f v) P → Rn G M cu q lv (.int v :: st) h post) : Rn G M cu pc lv (.ref (ad G o) :: st) h post := by
  obtain ⟨v, e, hf⟩ := ok_bind hf
  unfold gtI at e
  split at e
  next hc => cases e; exact rn_getI q hd hq hfl ht hc (kk _ hf)
  next => cases e
theorem ro_gtL (q : Nat) {idx ci k o : Nat} {f : Int64 → Option β} (hd : decode (mC M) pc = .ok (.getfield idx, 3)) (hq : pc + 3 = q) (hfl : FL (mY M).cls idx ci k) (ht : ftc ci k = 2) (hf : OkA (Option.bind (gtL h o ci k) f) P) (kk : ∀ v : Int64, OkA (f v) P → Rn G M cu q lv (.long v :: st) h post) : Rn G M cu pc lv (.ref (ad G o) :: st) h post := by
  obtain ⟨v, e, hf⟩ := ok_bind hf
  unfold gtL at e
  split at e
  next hc => cases e; exact rn_getL q hd hq hfl ht hc (kk _ hf)
  next => cases e
theorem ro_gtR (q : Nat) {idx ci k o : Nat} {f : Nat → Option β} (hd : decode (mC M) pc = .ok (.getfield idx, 3)) (hq : pc + 3 = q) (hfl : FL (mY M).cls idx ci k) (ht : ftc ci k = 1) (hf : OkA (Option.bind (gtR h o ci k) f) P) (kk : ∀ v : Nat, OkA (f v) P → Rn G M cu q lv (.ref (ad G v) :: st) h post) : Rn G M cu pc lv (.ref (ad G o) :: st) h post := by
  obtain ⟨v, e, hf⟩ := ok_bind hf
  unfold gtR at e
  split at e
  next hc => exact rn_getR q v hd hq hfl ht hc e (kk _ hf)
  next => cases e
theorem ro_ptI (q : Nat) {idx ci k o : Nat} {x : Int32} {f : AH → Option β} (hd : decode (mC M) pc = .ok (.putfield idx, 3)) (hq : pc + 3 = q) (hfl : FL (mY M).cls idx ci k) (hfin : PF M ci k) (ht : ftc ci k = 0) (hn : narrow (tyO ci k) (.int x) = .int x) (hfit : fits (tyO ci k) (.int x) = true) (hf : OkA (Option.bind (ptI h o ci k x) f) P) (kk : ∀ h1 : AH, OkA (f h1) P → Rn G M cu q lv st h1 post) : Rn G M cu pc lv (.int x :: .ref (ad G o) :: st) h post := by
  obtain ⟨h1, e, hf⟩ := ok_bind hf
  unfold ptI at e
  split at e
  next hc => cases e; exact rn_putI q hd hq hfl hfin ht hc hn hfit (kk _ hf)
  next => cases e
theorem ro_ptL (q : Nat) {idx ci k o : Nat} {x : Int64} {f : AH → Option β} (hd : decode (mC M) pc = .ok (.putfield idx, 3)) (hq : pc + 3 = q) (hfl : FL (mY M).cls idx ci k) (hfin : PF M ci k) (ht : ftc ci k = 2) (hn : narrow (tyO ci k) (.long x) = .long x) (hfit : fits (tyO ci k) (.long x) = true) (hf : OkA (Option.bind (ptL h o ci k x) f) P) (kk : ∀ h1 : AH, OkA (f h1) P → Rn G M cu q lv st h1 post) : Rn G M cu pc lv (.long x :: .ref (ad G o) :: st) h post := by
  obtain ⟨h1, e, hf⟩ := ok_bind hf
  unfold ptL at e
  split at e
  next hc => cases e; exact rn_putL q hd hq hfl hfin ht hc hn hfit (kk _ hf)
  next => cases e
theorem ro_ptR (q : Nat) {idx ci k o v : Nat} {f : AH → Option β} (hd : decode (mC M) pc = .ok (.putfield idx, 3)) (hq : pc + 3 = q) (hfl : FL (mY M).cls idx ci k) (hfin : PF M ci k) (ht : ftc ci k = 1) (hf : OkA (Option.bind (ptR h o ci k v) f) P) (kk : ∀ h1 : AH, OkA (f h1) P → Rn G M cu q lv st h1 post) : Rn G M cu pc lv (.ref (ad G v) :: .ref (ad G o) :: st) h post := by
  obtain ⟨h1, e, hf⟩ := ok_bind hf
  unfold ptR at e
  split at e
  next hc => cases e; exact rn_putR q hd hq hfl hfin ht hc (kk _ hf)
  next => cases e
theorem ro_ptZ (q : Nat) {idx ci k o : Nat} {x : Int32} {f : AH → Option β} (hd : decode (mC M) pc = .ok (.putfield idx, 3)) (hq : pc + 3 = q) (hfl : FL (mY M).cls idx ci k) (hfin : PF M ci k) (ht : ftc ci k = 0) (hty : tyO ci k = .boolean) (hf : OkA (Option.bind (ptZ h o ci k x) f) P) (kk : ∀ h1 : AH, OkA (f h1) P → Rn G M cu q lv st h1 post) : Rn G M cu pc lv (.int x :: .ref (ad G o) :: st) h post := by
  obtain ⟨h1, e, hf⟩ := ok_bind hf
  unfold ptZ at e
  split at e
  next hc => cases e; exact rn_putI q hd hq hfl hfin ht hc.1 (by rw [hty]; rcases hc.2 with z | z <;> subst z <;> rfl) (by rw [hty]; rcases hc.2 with z | z <;> subst z <;> rfl) (kk _ hf)
  next => cases e
theorem ro_iaload (q : Nat) {o : Nat} {x : Int32} {f : Int32 → Option β} (hd : decode (mC M) pc = .ok (.iaload, 1)) (hq : pc + 1 = q) (hf : OkA (Option.bind (ldA h o 10 x) f) P) (kk : ∀ v : Int32, OkA (f v) P → Rn G M cu q lv (.int v :: st) h post) : Rn G M cu pc lv (.int x :: .ref (ad G o) :: st) h post := by
  obtain ⟨v, e, hf⟩ := ok_bind hf
  unfold ldA at e
  split at e
  next hc => cases e; exact rn_iald q hd hq (Is.of hc.1) (inB_in hc.2) (kk _ hf)
  next => cases e
theorem ro_caload (q : Nat) {o : Nat} {x : Int32} {f : Int32 → Option β} (hd : decode (mC M) pc = .ok (.caload, 1)) (hq : pc + 1 = q) (hf : OkA (Option.bind (ldA h o 11 x) f) P) (kk : ∀ v : Int32, OkA (f v) P → Rn G M cu q lv (.int v :: st) h post) : Rn G M cu pc lv (.int x :: .ref (ad G o) :: st) h post := by
  obtain ⟨v, e, hf⟩ := ok_bind hf
  unfold ldA at e
  split at e
  next hc => cases e; exact rn_cald q hd hq (Is.of hc.1) (inB_in hc.2) (kk _ hf)
  next => cases e
theorem ro_baload (q : Nat) {o : Nat} {x : Int32} {f : Int32 → Option β} (hd : decode (mC M) pc = .ok (.baload, 1)) (hq : pc + 1 = q) (hf : OkA (Option.bind (ldA h o 12 x) f) P) (kk : ∀ v : Int32, OkA (f v) P → Rn G M cu q lv (.int v :: st) h post) : Rn G M cu pc lv (.int x :: .ref (ad G o) :: st) h post := by
  obtain ⟨v, e, hf⟩ := ok_bind hf
  unfold ldA at e
  split at e
  next hc => cases e; exact rn_zald q hd hq (Is.of hc.1) (inB_in hc.2) (kk _ hf)
  next => cases e
theorem ro_iastore (q : Nat) {o : Nat} {i x : Int32} {f : AH → Option β} (hd : decode (mC M) pc = .ok (.iastore, 1)) (hq : pc + 1 = q) (hf : OkA (Option.bind (stA h o 10 i x) f) P) (kk : ∀ h1 : AH, OkA (f h1) P → Rn G M cu q lv st h1 post) : Rn G M cu pc lv (.int x :: .int i :: .ref (ad G o) :: st) h post := by
  obtain ⟨h1, e, hf⟩ := ok_bind hf
  unfold stA at e
  split at e
  next hc => cases e; exact rn_iast q hd hq (Is.of hc.1) (inB_in hc.2) (kk _ hf)
  next => cases e
theorem ro_castore (q : Nat) {o : Nat} {i x : Int32} {f : AH → Option β} (hd : decode (mC M) pc = .ok (.castore, 1)) (hq : pc + 1 = q) (hf : OkA (Option.bind (stA h o 11 i (vp_nar .char x)) f) P) (kk : ∀ h1 : AH, OkA (f h1) P → Rn G M cu q lv st h1 post) : Rn G M cu pc lv (.int x :: .int i :: .ref (ad G o) :: st) h post := by
  obtain ⟨h1, e, hf⟩ := ok_bind hf
  unfold stA at e
  split at e
  next hc => cases e; exact rn_cast q hd hq (Is.of hc.1) (inB_in hc.2) (kk _ hf)
  next => cases e
theorem ro_bastore (q : Nat) {o : Nat} {i x : Int32} {f : AH → Option β} (hd : decode (mC M) pc = .ok (.bastore, 1)) (hq : pc + 1 = q) (hf : OkA (Option.bind (stA h o 12 i (vp_nar .boolean x)) f) P) (kk : ∀ h1 : AH, OkA (f h1) P → Rn G M cu q lv st h1 post) : Rn G M cu pc lv (.int x :: .int i :: .ref (ad G o) :: st) h post := by
  obtain ⟨h1, e, hf⟩ := ok_bind hf
  unfold stA at e
  split at e
  next hc => cases e; exact rn_zast q hd hq (Is.of hc.1) (inB_in hc.2) (kk _ hf)
  next => cases e
theorem ro_aaload (q : Nat) {o : Nat} {x : Int32} {f : Nat → Option β} (hd : decode (mC M) pc = .ok (.aaload, 1)) (hq : pc + 1 = q) (hf : OkA (Option.bind (ldR h o x) f) P) (kk : ∀ v : Nat, OkA (f v) P → Rn G M cu q lv (.ref (ad G v) :: st) h post) : Rn G M cu pc lv (.int x :: .ref (ad G o) :: st) h post := by
  obtain ⟨v, e, hf⟩ := ok_bind hf
  unfold ldR at e
  split at e
  next hc => exact rn_aald q v hd hq (Is.of hc.1) (inB_in hc.2) e (kk _ hf)
  next => cases e
theorem ro_aastore (q : Nat) {o v : Nat} {i : Int32} {f : AH → Option β} (hd : decode (mC M) pc = .ok (.aastore, 1)) (hq : pc + 1 = q) (hf : OkA (Option.bind (stR h o i v) f) P) (kk : ∀ h1 : AH, OkA (f h1) P → Rn G M cu q lv st h1 post) : Rn G M cu pc lv (.ref (ad G v) :: .int i :: .ref (ad G o) :: st) h post := by
  obtain ⟨h1, e, hf⟩ := ok_bind hf
  unfold stR at e
  split at e
  next hc => cases e; exact rn_aast q hd hq (Is.of hc.1.1) (inB_in hc.1.2) (nv := 14) hc.2 (kk _ hf)
  next => cases e
theorem ro_arraylength (q : Nat) {o : Nat} {f : Int32 → Option β} (hd : decode (mC M) pc = .ok (.arraylength, 1)) (hq : pc + 1 = q) (hf : OkA (Option.bind (lnA h o) f) P) (kk : ∀ v : Int32, OkA (f v) P → Rn G M cu q lv (.int v :: st) h post) : Rn G M cu pc lv (.ref (ad G o) :: st) h post := by
  obtain ⟨v, e, hf⟩ := ok_bind hf
  unfold lnA at e
  split at e
  next hc => cases e; exact rn_alen q hd hq (Is.of hc) (kk _ hf)
  next => cases e
theorem ro_copy (q : Nat) {idx o1 o2 : Nat} {sp dp n : Int32} {f : AH → Option β} (hd : decode (mC M) pc = .ok (.invokestatic idx, 3)) (hq : pc + 3 = q) (hw : Cond.methodLink (mY M).cls idx arraycopyName ∈ lw_g) (hrm : 1 ≤ (mR M).frames ∧ (st.map fun v => v.category).sum + (nativeFrameWords "java/lang/System" "arraycopy" 5 + 11) ≤ (mR M).locals) (hf : OkA (Option.bind (cpA h o1 sp o2 dp n) f) P) (kk : ∀ h1 : AH, OkA (f h1) P → Rn G M cu q lv st h1 post) : Rn G M cu pc lv (.int n :: .int dp :: .ref (ad G o2) :: .int sp :: .ref (ad G o1) :: st) h post := by
  obtain ⟨h1, e, hf⟩ := ok_bind hf
  unfold cpA at e
  split at e
  next hc => cases e; exact rn_copy q hd hq hw hrm (Is.of hc.1.1) (Is.of hc.1.2) hc.2.1.1 hc.2.1.2.1 hc.2.1.2.2 hc.2.2.1 hc.2.2.2 (kk _ hf)
  next => cases e
theorem ro_idiv (q : Nat) {x y : Int32} {f : Int32 → Option β} (hd : decode (mC M) pc = .ok (.idiv, 1)) (hq : pc + 1 = q) (hf : OkA (Option.bind (dvI x y) f) P) (kk : ∀ v : Int32, OkA (f v) P → Rn G M cu q lv (.int v :: st) h post) : Rn G M cu pc lv (.int y :: .int x :: st) h post := by
  obtain ⟨v, e, hf⟩ := ok_bind hf
  unfold dvI at e
  split at e
  next => cases e
  next hc => cases e; exact rn_idiv q hd hq hc (kk _ hf)
theorem ro_irem (q : Nat) {x y : Int32} {f : Int32 → Option β} (hd : decode (mC M) pc = .ok (.irem, 1)) (hq : pc + 1 = q) (hf : OkA (Option.bind (rmI x y) f) P) (kk : ∀ v : Int32, OkA (f v) P → Rn G M cu q lv (.int v :: st) h post) : Rn G M cu pc lv (.int y :: .int x :: st) h post := by
  obtain ⟨v, e, hf⟩ := ok_bind hf
  unfold rmI at e
  split at e
  next => cases e
  next hc => cases e; exact rn_irem q hd hq hc (kk _ hf)
theorem ro_ldiv (q : Nat) {x y : Int64} {f : Int64 → Option β} (hd : decode (mC M) pc = .ok (.ldiv, 1)) (hq : pc + 1 = q) (hf : OkA (Option.bind (dvL x y) f) P) (kk : ∀ v : Int64, OkA (f v) P → Rn G M cu q lv (.long v :: st) h post) : Rn G M cu pc lv (.long y :: .long x :: st) h post := by
  obtain ⟨v, e, hf⟩ := ok_bind hf
  unfold dvL at e
  split at e
  next => cases e
  next hc => cases e; exact rn_ldiv q hd hq hc (kk _ hf)
theorem ro_lrem (q : Nat) {x y : Int64} {f : Int64 → Option β} (hd : decode (mC M) pc = .ok (.lrem, 1)) (hq : pc + 1 = q) (hf : OkA (Option.bind (rmL x y) f) P) (kk : ∀ v : Int64, OkA (f v) P → Rn G M cu q lv (.long v :: st) h post) : Rn G M cu pc lv (.long y :: .long x :: st) h post := by
  obtain ⟨v, e, hf⟩ := ok_bind hf
  unfold rmL at e
  split at e
  next => cases e
  next hc => cases e; exact rn_lrem q hd hq hc (kk _ hf)
theorem ro_scr (q : Nat) {x : Int32} {f : Int32 → Option β} (hd : decode (mC M) pc = .ok (.iaload, 1)) (hq : pc + 1 = q) (hf : OkA (Option.bind (scr (gLn G) (gXs G) x) f) P) (kk : ∀ v : Int32, OkA (f v) P → Rn G M cu q lv (.int v :: st) h post) : Rn G M cu pc lv (.int x :: .ref (gB G) :: st) h post := by
  obtain ⟨v, e, hf⟩ := ok_bind hf
  unfold scr at e
  split at e
  next hc => cases e; exact rn_scr q hd hq (inB_in hc) (kk _ hf)
  next => cases e
theorem ro_newa (q tag : Nat) {n : Int32} {N : Nat} {at0 : ArrayType} {f : AH → Option β} (hd : decode (mC M) pc = .ok (.newarray at0, 2)) (hq : pc + 2 = q) (htag : (tag = 10 ∧ newarray.typeOf at0 = .int) ∨ (tag = 11 ∧ newarray.typeOf at0 = .char) ∨ (tag = 12 ∧ newarray.typeOf at0 = .boolean)) (hn : ¬ n < 0) (hNn : n.toNatClampNeg = N) (hb : N ≤ 1000) (hc : cu.1 + 1 ≤ (mR M).cells) (hs : cu.2 + N ≤ (mR M).slots) (hf : OkA (Option.bind (some (sN h tag N)) f) P) (kk : ∀ h1, OkA (f h1) P → Rn G M (cu.1 + 1, cu.2 + N) q lv (.ref (ad G (hN h)) :: st) h1 post) : Rn G M cu pc lv (.int n :: st) h post := by
  obtain ⟨h1, e, hf⟩ := ok_bind hf
  cases e
  exact rn_newa q tag hd hq htag hn hNn hb hc hs (kk _ hf)
theorem ro_newq (q : Nat) {n : Int32} {N idx : Nat} {f : AH → Option β} (hd : decode (mC M) pc = .ok (.anewarray idx, 3)) (hq : pc + 3 = q) (hw : Cond.classLink (mY M).cls idx RX3 ∈ lw_g) (hn : ¬ n < 0) (hNn : n.toNatClampNeg = N) (hb : N ≤ 1000) (hc : cu.1 + 1 ≤ (mR M).cells) (hs : cu.2 + N ≤ (mR M).slots) (hf : OkA (Option.bind (some (sN h 13 N)) f) P) (kk : ∀ h1, OkA (f h1) P → Rn G M (cu.1 + 1, cu.2 + N) q lv (.ref (ad G (hN h)) :: st) h1 post) : Rn G M cu pc lv (.int n :: st) h post := by
  obtain ⟨h1, e, hf⟩ := ok_bind hf
  cases e
  exact rn_newq q hd hq hw hn hNn hb hc hs (kk _ hf)
theorem ro_new (q ci : Nat) {idx N : Nat} {f : AH → Option β} (hd : decode (mC M) pc = .ok (.new idx, 3)) (hq : pc + 3 = q) (hw : ∃ r : vw_C, vwCl[ci]? = some r ∧ Cond.classLink (mY M).cls idx r.1 ∈ lw_g ∧ Cond.instantiable r.1 r.2.2 ∈ lw_g ∧ Cond.initialized r.1 ∈ lw_g) (hN0 : nfO ci = N) (hc : cu.1 + 1 ≤ (mR M).cells) (hs : cu.2 + N ≤ (mR M).slots) (hf : OkA (Option.bind (some (sN h ci N)) f) P) (kk : ∀ h1, OkA (f h1) P → Rn G M (cu.1 + 1, cu.2 + N) q lv (.ref (ad G (hN h)) :: st) h1 post) : Rn G M cu pc lv st h post := by
  subst hN0
  obtain ⟨h1, e, hf⟩ := ok_bind hf
  cases e
  exact rn_new q ci hd hq hw hc hs (kk _ hf)
theorem ro_icmp_eq (t q : Nat) {x y : Int32} {off : Int} {a b : Option β} (hd : decode (mC M) pc = .ok (.if_icmp .eq off, 3)) (ht : (pc : Int) + off = (t : Int)) (hq : pc + 3 = q) (hf : OkA (if x = y then a else b) P) (kt : OkA a P → Rn G M cu t lv st h post) (kf : OkA b P → Rn G M cu q lv st h post) : Rn G M cu pc lv (.int y :: .int x :: st) h post := by
  by_cases hc : x = y
  · rw [if_pos hc] at hf
    exact rn_icmp_eq t q hd ht hq (fun _ => kt hf) (fun z => (z hc).elim)
  · rw [if_neg hc] at hf
    exact rn_icmp_eq t q hd ht hq (fun z => absurd z hc) (fun _ => kf hf)
theorem ro_if_eq (t q : Nat) {x : Int32} {off : Int} {a b : Option β} (hd : decode (mC M) pc = .ok (.ifCond .eq off, 3)) (ht : (pc : Int) + off = (t : Int)) (hq : pc + 3 = q) (hf : OkA (if x = 0 then a else b) P) (kt : OkA a P → Rn G M cu t lv st h post) (kf : OkA b P → Rn G M cu q lv st h post) : Rn G M cu pc lv (.int x :: st) h post := by
  by_cases hc : x = 0
  · rw [if_pos hc] at hf
    exact rn_if_eq t q hd ht hq (fun _ => kt hf) (fun z => absurd hc z)
  · rw [if_neg hc] at hf
    exact rn_if_eq t q hd ht hq (fun z => absurd z hc) (fun _ => kf hf)
theorem ro_icmp_ne (t q : Nat) {x y : Int32} {off : Int} {a b : Option β} (hd : decode (mC M) pc = .ok (.if_icmp .ne off, 3)) (ht : (pc : Int) + off = (t : Int)) (hq : pc + 3 = q) (hf : OkA (if ¬ x = y then a else b) P) (kt : OkA a P → Rn G M cu t lv st h post) (kf : OkA b P → Rn G M cu q lv st h post) : Rn G M cu pc lv (.int y :: .int x :: st) h post := by
  by_cases hc : ¬ x = y
  · rw [if_pos hc] at hf
    exact rn_icmp_ne t q hd ht hq (fun _ => kt hf) (fun z => (hc z).elim)
  · rw [if_neg hc] at hf
    exact rn_icmp_ne t q hd ht hq (fun z => absurd z hc) (fun _ => kf hf)
theorem ro_if_ne (t q : Nat) {x : Int32} {off : Int} {a b : Option β} (hd : decode (mC M) pc = .ok (.ifCond .ne off, 3)) (ht : (pc : Int) + off = (t : Int)) (hq : pc + 3 = q) (hf : OkA (if ¬ x = 0 then a else b) P) (kt : OkA a P → Rn G M cu t lv st h post) (kf : OkA b P → Rn G M cu q lv st h post) : Rn G M cu pc lv (.int x :: st) h post := by
  by_cases hc : ¬ x = 0
  · rw [if_pos hc] at hf
    exact rn_if_ne t q hd ht hq (fun _ => kt hf) (fun z => absurd z hc)
  · rw [if_neg hc] at hf
    exact rn_if_ne t q hd ht hq (fun z => absurd z hc) (fun _ => kf hf)
theorem ro_icmp_lt (t q : Nat) {x y : Int32} {off : Int} {a b : Option β} (hd : decode (mC M) pc = .ok (.if_icmp .lt off, 3)) (ht : (pc : Int) + off = (t : Int)) (hq : pc + 3 = q) (hf : OkA (if x < y then a else b) P) (kt : OkA a P → Rn G M cu t lv st h post) (kf : OkA b P → Rn G M cu q lv st h post) : Rn G M cu pc lv (.int y :: .int x :: st) h post := by
  by_cases hc : x < y
  · rw [if_pos hc] at hf
    exact rn_icmp_lt t q hd ht hq (fun _ => kt hf) (fun z => (z hc).elim)
  · rw [if_neg hc] at hf
    exact rn_icmp_lt t q hd ht hq (fun z => absurd z hc) (fun _ => kf hf)
theorem ro_if_lt (t q : Nat) {x : Int32} {off : Int} {a b : Option β} (hd : decode (mC M) pc = .ok (.ifCond .lt off, 3)) (ht : (pc : Int) + off = (t : Int)) (hq : pc + 3 = q) (hf : OkA (if x < 0 then a else b) P) (kt : OkA a P → Rn G M cu t lv st h post) (kf : OkA b P → Rn G M cu q lv st h post) : Rn G M cu pc lv (.int x :: st) h post := by
  by_cases hc : x < 0
  · rw [if_pos hc] at hf
    exact rn_if_lt t q hd ht hq (fun _ => kt hf) (fun z => absurd hc z)
  · rw [if_neg hc] at hf
    exact rn_if_lt t q hd ht hq (fun z => absurd z hc) (fun _ => kf hf)
theorem ro_icmp_ge (t q : Nat) {x y : Int32} {off : Int} {a b : Option β} (hd : decode (mC M) pc = .ok (.if_icmp .ge off, 3)) (ht : (pc : Int) + off = (t : Int)) (hq : pc + 3 = q) (hf : OkA (if y ≤ x then a else b) P) (kt : OkA a P → Rn G M cu t lv st h post) (kf : OkA b P → Rn G M cu q lv st h post) : Rn G M cu pc lv (.int y :: .int x :: st) h post := by
  by_cases hc : y ≤ x
  · rw [if_pos hc] at hf
    exact rn_icmp_ge t q hd ht hq (fun _ => kt hf) (fun z => (z hc).elim)
  · rw [if_neg hc] at hf
    exact rn_icmp_ge t q hd ht hq (fun z => absurd z hc) (fun _ => kf hf)
theorem ro_if_ge (t q : Nat) {x : Int32} {off : Int} {a b : Option β} (hd : decode (mC M) pc = .ok (.ifCond .ge off, 3)) (ht : (pc : Int) + off = (t : Int)) (hq : pc + 3 = q) (hf : OkA (if 0 ≤ x then a else b) P) (kt : OkA a P → Rn G M cu t lv st h post) (kf : OkA b P → Rn G M cu q lv st h post) : Rn G M cu pc lv (.int x :: st) h post := by
  by_cases hc : 0 ≤ x
  · rw [if_pos hc] at hf
    exact rn_if_ge t q hd ht hq (fun _ => kt hf) (fun z => absurd hc z)
  · rw [if_neg hc] at hf
    exact rn_if_ge t q hd ht hq (fun z => absurd z hc) (fun _ => kf hf)
theorem ro_icmp_gt (t q : Nat) {x y : Int32} {off : Int} {a b : Option β} (hd : decode (mC M) pc = .ok (.if_icmp .gt off, 3)) (ht : (pc : Int) + off = (t : Int)) (hq : pc + 3 = q) (hf : OkA (if y < x then a else b) P) (kt : OkA a P → Rn G M cu t lv st h post) (kf : OkA b P → Rn G M cu q lv st h post) : Rn G M cu pc lv (.int y :: .int x :: st) h post := by
  by_cases hc : y < x
  · rw [if_pos hc] at hf
    exact rn_icmp_gt t q hd ht hq (fun _ => kt hf) (fun z => (z hc).elim)
  · rw [if_neg hc] at hf
    exact rn_icmp_gt t q hd ht hq (fun z => absurd z hc) (fun _ => kf hf)
theorem ro_if_gt (t q : Nat) {x : Int32} {off : Int} {a b : Option β} (hd : decode (mC M) pc = .ok (.ifCond .gt off, 3)) (ht : (pc : Int) + off = (t : Int)) (hq : pc + 3 = q) (hf : OkA (if 0 < x then a else b) P) (kt : OkA a P → Rn G M cu t lv st h post) (kf : OkA b P → Rn G M cu q lv st h post) : Rn G M cu pc lv (.int x :: st) h post := by
  by_cases hc : 0 < x
  · rw [if_pos hc] at hf
    exact rn_if_gt t q hd ht hq (fun _ => kt hf) (fun z => absurd hc z)
  · rw [if_neg hc] at hf
    exact rn_if_gt t q hd ht hq (fun z => absurd z hc) (fun _ => kf hf)
theorem ro_icmp_le (t q : Nat) {x y : Int32} {off : Int} {a b : Option β} (hd : decode (mC M) pc = .ok (.if_icmp .le off, 3)) (ht : (pc : Int) + off = (t : Int)) (hq : pc + 3 = q) (hf : OkA (if x ≤ y then a else b) P) (kt : OkA a P → Rn G M cu t lv st h post) (kf : OkA b P → Rn G M cu q lv st h post) : Rn G M cu pc lv (.int y :: .int x :: st) h post := by
  by_cases hc : x ≤ y
  · rw [if_pos hc] at hf
    exact rn_icmp_le t q hd ht hq (fun _ => kt hf) (fun z => (z hc).elim)
  · rw [if_neg hc] at hf
    exact rn_icmp_le t q hd ht hq (fun z => absurd z hc) (fun _ => kf hf)
theorem ro_if_le (t q : Nat) {x : Int32} {off : Int} {a b : Option β} (hd : decode (mC M) pc = .ok (.ifCond .le off, 3)) (ht : (pc : Int) + off = (t : Int)) (hq : pc + 3 = q) (hf : OkA (if x ≤ 0 then a else b) P) (kt : OkA a P → Rn G M cu t lv st h post) (kf : OkA b P → Rn G M cu q lv st h post) : Rn G M cu pc lv (.int x :: st) h post := by
  by_cases hc : x ≤ 0
  · rw [if_pos hc] at hf
    exact rn_if_le t q hd ht hq (fun _ => kt hf) (fun z => absurd hc z)
  · rw [if_neg hc] at hf
    exact rn_if_le t q hd ht hq (fun z => absurd z hc) (fun _ => kf hf)
theorem ro_cVv {o ci : Nat} {As : List Value} {Fc : Option (AH)} {f : AH → Option β} (q : Nat) (cu' : Nat × Nat) {idx n : Nat} (hd : decode (mC M) pc = .ok (.invokevirtual idx, 3)) (hq : pc + 3 = q) (hl0 : ML (mY M).cls idx M') (hw : CV0 M' n) (hrm : rmOK M M') (ht : mT M' = none) (hn : As.length = n) (hst : (st.map fun v => v.category).sum ≤ 8) (hlen : (lg_sl (.ref (ad G o) :: As)).length ≤ mL M') (hcu : cuOK M M' cu cu') (hf : OkA (Option.bind Fc f) P) (hck : ∀ X, OkA Fc X → Is h o ci (nfO ci)) (hci : (vwCl[ci]?).map (fun r => r.1) = some (mY M').cls) (T : ∀ X : PO, OkA Fc (fun r => X none r) → Rn G M' (0, 0) 0 (lv_args 0 (.ref (ad G o) :: As)) [] h X) (kk : ∀ r, OkA (f r) P → Rn G M cu' q lv st r post) : Rn G M cu pc lv (As.reverse ++ .ref (ad G o) :: st) h post := by
  have hf1 : OkA Fc (fun r => Rn G M cu' q lv st r post) := ok_assoc hf kk
  exact rn_cVv q cu' hd hq hl0 hw hrm ht (hck _ hf1) hci hn hst hlen hcu (T _ hf1)
theorem ro_cVp {o ci : Nat} {As : List Value} {Fc : Option (Int32)} {f : Int32 → Option β} (q : Nat) (cu' : Nat × Nat) {idx n : Nat} (hd : decode (mC M) pc = .ok (.invokevirtual idx, 3)) (hq : pc + 3 = q) (hl0 : ML (mY M).cls idx M') (hw : CV0 M' n) (hrm : rmOK M M') {ty : FieldType} (ht : mT M' = some ty) (hn : As.length = n) (hst : (st.map fun v => v.category).sum ≤ 8) (hlen : (lg_sl (.ref (ad G o) :: As)).length ≤ mL M') (hcu : cuOK M M' cu cu') (hf : OkA (Option.bind Fc f) P) (hck : ∀ X, OkA Fc X → Is h o ci (nfO ci)) (hci : (vwCl[ci]?).map (fun r => r.1) = some (mY M').cls) (T : ∀ X : PO, OkA Fc (fun r => X (some r) h) → Rn G M' (0, 0) 0 (lv_args 0 (.ref (ad G o) :: As)) [] h X) (kk : ∀ r, OkA (f r) P → Rn G M cu' q lv (.int r :: st) h post) : Rn G M cu pc lv (As.reverse ++ .ref (ad G o) :: st) h post := by
  have hf1 : OkA Fc (fun r => Rn G M cu' q lv (.int r :: st) h post) := ok_assoc hf kk
  exact rn_cVi q cu' hd hq hl0 hw hrm ht (hck _ hf1) hci hn hst hlen hcu (T _ hf1)
theorem ro_cVi {o ci : Nat} {As : List Value} {Fc : Option (Int32 × AH)} {f : Int32 × AH → Option β} (q : Nat) (cu' : Nat × Nat) {idx n : Nat} (hd : decode (mC M) pc = .ok (.invokevirtual idx, 3)) (hq : pc + 3 = q) (hl0 : ML (mY M).cls idx M') (hw : CV0 M' n) (hrm : rmOK M M') {ty : FieldType} (ht : mT M' = some ty) (hn : As.length = n) (hst : (st.map fun v => v.category).sum ≤ 8) (hlen : (lg_sl (.ref (ad G o) :: As)).length ≤ mL M') (hcu : cuOK M M' cu cu') (hf : OkA (Option.bind Fc f) P) (hck : ∀ X, OkA Fc X → Is h o ci (nfO ci)) (hci : (vwCl[ci]?).map (fun r => r.1) = some (mY M').cls) (T : ∀ X : PO, OkA Fc (fun r => X (some r.1) r.2) → Rn G M' (0, 0) 0 (lv_args 0 (.ref (ad G o) :: As)) [] h X) (kk : ∀ r, OkA (f r) P → Rn G M cu' q lv (.int r.1 :: st) r.2 post) : Rn G M cu pc lv (As.reverse ++ .ref (ad G o) :: st) h post := by
  have hf1 : OkA Fc (fun r => Rn G M cu' q lv (.int r.1 :: st) r.2 post) := ok_assoc hf kk
  exact rn_cVi q cu' hd hq hl0 hw hrm ht (hck _ hf1) hci hn hst hlen hcu (T _ hf1)
theorem ro_cSv  {As : List Value} {Fc : Option (AH)} {f : AH → Option β} (q : Nat) (cu' : Nat × Nat) {idx n : Nat} (hd : decode (mC M) pc = .ok (.invokestatic idx, 3)) (hq : pc + 3 = q) (hl0 : ML (mY M).cls idx M') (hw : CS0 M' n) (hrm : rmOK M M') (ht : mT M' = none) (hn : As.length = n) (hst : (st.map fun v => v.category).sum ≤ 8) (hlen : (lg_sl As).length ≤ mL M') (hcu : cuOK M M' cu cu') (hf : OkA (Option.bind Fc f) P) (T : ∀ X : PO, OkA Fc (fun r => X none r) → Rn G M' (0, 0) 0 (lv_args 0 As) [] h X) (kk : ∀ r, OkA (f r) P → Rn G M cu' q lv st r post) : Rn G M cu pc lv (As.reverse ++ st) h post := by
  have hf1 : OkA Fc (fun r => Rn G M cu' q lv st r post) := ok_assoc hf kk
  exact rn_cSv q cu' hd hq hl0 hw hrm ht hn hst hlen hcu (T _ hf1)
theorem ro_cSp  {As : List Value} {Fc : Option (Int32)} {f : Int32 → Option β} (q : Nat) (cu' : Nat × Nat) {idx n : Nat} (hd : decode (mC M) pc = .ok (.invokestatic idx, 3)) (hq : pc + 3 = q) (hl0 : ML (mY M).cls idx M') (hw : CS0 M' n) (hrm : rmOK M M') {ty : FieldType} (ht : mT M' = some ty) (hn : As.length = n) (hst : (st.map fun v => v.category).sum ≤ 8) (hlen : (lg_sl As).length ≤ mL M') (hcu : cuOK M M' cu cu') (hf : OkA (Option.bind Fc f) P) (T : ∀ X : PO, OkA Fc (fun r => X (some r) h) → Rn G M' (0, 0) 0 (lv_args 0 As) [] h X) (kk : ∀ r, OkA (f r) P → Rn G M cu' q lv (.int r :: st) h post) : Rn G M cu pc lv (As.reverse ++ st) h post := by
  have hf1 : OkA Fc (fun r => Rn G M cu' q lv (.int r :: st) h post) := ok_assoc hf kk
  exact rn_cSi q cu' hd hq hl0 hw hrm ht hn hst hlen hcu (T _ hf1)
theorem ro_cSi  {As : List Value} {Fc : Option (Int32 × AH)} {f : Int32 × AH → Option β} (q : Nat) (cu' : Nat × Nat) {idx n : Nat} (hd : decode (mC M) pc = .ok (.invokestatic idx, 3)) (hq : pc + 3 = q) (hl0 : ML (mY M).cls idx M') (hw : CS0 M' n) (hrm : rmOK M M') {ty : FieldType} (ht : mT M' = some ty) (hn : As.length = n) (hst : (st.map fun v => v.category).sum ≤ 8) (hlen : (lg_sl As).length ≤ mL M') (hcu : cuOK M M' cu cu') (hf : OkA (Option.bind Fc f) P) (T : ∀ X : PO, OkA Fc (fun r => X (some r.1) r.2) → Rn G M' (0, 0) 0 (lv_args 0 As) [] h X) (kk : ∀ r, OkA (f r) P → Rn G M cu' q lv (.int r.1 :: st) r.2 post) : Rn G M cu pc lv (As.reverse ++ st) h post := by
  have hf1 : OkA Fc (fun r => Rn G M cu' q lv (.int r.1 :: st) r.2 post) := ok_assoc hf kk
  exact rn_cSi q cu' hd hq hl0 hw hrm ht hn hst hlen hcu (T _ hf1)
theorem ro_cIv {o : Nat} {As : List Value} {Fc : Option (AH)} {f : AH → Option β} (q : Nat) (cu' : Nat × Nat) {idx n : Nat} (hd : decode (mC M) pc = .ok (.invokespecial idx, 3)) (hq : pc + 3 = q) (hl0 : ML (mY M).cls idx M') (hw : CI0 M' n) (hrm : rmOK M M') (ht : mT M' = none) (hn : As.length = n) (hst : (st.map fun v => v.category).sum ≤ 8) (hlen : (lg_sl (.ref (ad G o) :: As)).length ≤ mL M') (hcu : cuOK M M' cu cu') (hf : OkA (Option.bind Fc f) P) (T : ∀ X : PO, OkA Fc (fun r => X none r) → Rn G M' (0, 0) 0 (lv_args 0 (.ref (ad G o) :: As)) [] h X) (kk : ∀ r, OkA (f r) P → Rn G M cu' q lv st r post) : Rn G M cu pc lv (As.reverse ++ .ref (ad G o) :: st) h post := by
  have hf1 : OkA Fc (fun r => Rn G M cu' q lv st r post) := ok_assoc hf kk
  exact rn_cIv q cu' hd hq hl0 hw hrm ht hn hst hlen hcu (T _ hf1)
theorem ro_cNv {o : Nat} {As : List Value} {Fc : Option (AH)} {f : AH → Option β} (q : Nat) (cu' : Nat × Nat) {idx n : Nat} (hd : decode (mC M) pc = .ok (.invokespecial idx, 3)) (hq : pc + 3 = q) (hl0 : va_Nw (.methodLinkNest (mY M).cls idx (mY M') RX4) = va_Nw (.methodLinkNest RX4 9 yX1_init RX4) ∨ va_Nw (.methodLinkNest (mY M).cls idx (mY M') RX4) = va_Nw (.methodLinkNest RX4 49 yX0_init RX4)) (hw : CI0 M' n) (hrm : rmOK M M') (ht : mT M' = none) (hn : As.length = n) (hst : (st.map fun v => v.category).sum ≤ 8) (hlen : (lg_sl (.ref (ad G o) :: As)).length ≤ mL M') (hcu : cuOK M M' cu cu') (hf : OkA (Option.bind Fc f) P) (T : ∀ X : PO, OkA Fc (fun r => X none r) → Rn G M' (0, 0) 0 (lv_args 0 (.ref (ad G o) :: As)) [] h X) (kk : ∀ r, OkA (f r) P → Rn G M cu' q lv st r post) : Rn G M cu pc lv (As.reverse ++ .ref (ad G o) :: st) h post := by
  have hf1 : OkA Fc (fun r => Rn G M cu' q lv st r post) := ok_assoc hf kk
  exact rn_cNv q cu' hd hq hl0 hw hrm ht hn hst hlen hcu (T _ hf1)
end RO
theorem tb_out3 {x : Int32} (z0 : ¬ x = 0) (z1 : ¬ x = 1) (z2 : ¬ x = 2) : x.toInt < 0 ∨ 2 < x.toInt := by
  have e0 : ¬ x.toInt = 0 := fun e => z0 (Int32.toInt_inj.mp (e.trans (by decide)))
  have e1 : ¬ x.toInt = 1 := fun e => z1 (Int32.toInt_inj.mp (e.trans (by decide)))
  have e2 : ¬ x.toInt = 2 := fun e => z2 (Int32.toInt_inj.mp (e.trans (by decide)))
  omega
theorem tb_out4 {x : Int32} (z0 : ¬ x = 0) (z1 : ¬ x = 1) (z2 : ¬ x = 2) (z3 : ¬ x = 3) : x.toInt < 0 ∨ 3 < x.toInt := by
  have e0 : ¬ x.toInt = 0 := fun e => z0 (Int32.toInt_inj.mp (e.trans (by decide)))
  have e1 : ¬ x.toInt = 1 := fun e => z1 (Int32.toInt_inj.mp (e.trans (by decide)))
  have e2 : ¬ x.toInt = 2 := fun e => z2 (Int32.toInt_inj.mp (e.trans (by decide)))
  have e3 : ¬ x.toInt = 3 := fun e => z3 (Int32.toInt_inj.mp (e.trans (by decide)))
  omega
theorem tb_out5 {x : Int32} (z0 : ¬ x = 0) (z1 : ¬ x = 1) (z2 : ¬ x = 2) (z3 : ¬ x = 3) (z4 : ¬ x = 4) : x.toInt < 0 ∨ 4 < x.toInt := by
  have e0 : ¬ x.toInt = 0 := fun e => z0 (Int32.toInt_inj.mp (e.trans (by decide)))
  have e1 : ¬ x.toInt = 1 := fun e => z1 (Int32.toInt_inj.mp (e.trans (by decide)))
  have e2 : ¬ x.toInt = 2 := fun e => z2 (Int32.toInt_inj.mp (e.trans (by decide)))
  have e3 : ¬ x.toInt = 3 := fun e => z3 (Int32.toInt_inj.mp (e.trans (by decide)))
  have e4 : ¬ x.toInt = 4 := fun e => z4 (Int32.toInt_inj.mp (e.trans (by decide)))
  omega
theorem tb_out13 {x : Int32} (z0 : ¬ x = 0) (z1 : ¬ x = 1) (z2 : ¬ x = 2) (z3 : ¬ x = 3) (z4 : ¬ x = 4) (z5 : ¬ x = 5) (z6 : ¬ x = 6) (z7 : ¬ x = 7) (z8 : ¬ x = 8) (z9 : ¬ x = 9) (z10 : ¬ x = 10) (z11 : ¬ x = 11) (z12 : ¬ x = 12) : x.toInt < 0 ∨ 12 < x.toInt := by
  have e0 : ¬ x.toInt = 0 := fun e => z0 (Int32.toInt_inj.mp (e.trans (by decide)))
  have e1 : ¬ x.toInt = 1 := fun e => z1 (Int32.toInt_inj.mp (e.trans (by decide)))
  have e2 : ¬ x.toInt = 2 := fun e => z2 (Int32.toInt_inj.mp (e.trans (by decide)))
  have e3 : ¬ x.toInt = 3 := fun e => z3 (Int32.toInt_inj.mp (e.trans (by decide)))
  have e4 : ¬ x.toInt = 4 := fun e => z4 (Int32.toInt_inj.mp (e.trans (by decide)))
  have e5 : ¬ x.toInt = 5 := fun e => z5 (Int32.toInt_inj.mp (e.trans (by decide)))
  have e6 : ¬ x.toInt = 6 := fun e => z6 (Int32.toInt_inj.mp (e.trans (by decide)))
  have e7 : ¬ x.toInt = 7 := fun e => z7 (Int32.toInt_inj.mp (e.trans (by decide)))
  have e8 : ¬ x.toInt = 8 := fun e => z8 (Int32.toInt_inj.mp (e.trans (by decide)))
  have e9 : ¬ x.toInt = 9 := fun e => z9 (Int32.toInt_inj.mp (e.trans (by decide)))
  have e10 : ¬ x.toInt = 10 := fun e => z10 (Int32.toInt_inj.mp (e.trans (by decide)))
  have e11 : ¬ x.toInt = 11 := fun e => z11 (Int32.toInt_inj.mp (e.trans (by decide)))
  have e12 : ¬ x.toInt = 12 := fun e => z12 (Int32.toInt_inj.mp (e.trans (by decide)))
  omega
theorem tb_out28 {x : Int32} (z0 : ¬ x = 0) (z1 : ¬ x = 1) (z2 : ¬ x = 2) (z3 : ¬ x = 3) (z4 : ¬ x = 4) (z5 : ¬ x = 5) (z6 : ¬ x = 6) (z7 : ¬ x = 7) (z8 : ¬ x = 8) (z9 : ¬ x = 9) (z10 : ¬ x = 10) (z11 : ¬ x = 11) (z12 : ¬ x = 12) (z13 : ¬ x = 13) (z14 : ¬ x = 14) (z15 : ¬ x = 15) (z16 : ¬ x = 16) (z17 : ¬ x = 17) (z18 : ¬ x = 18) (z19 : ¬ x = 19) (z20 : ¬ x = 20) (z21 : ¬ x = 21) (z22 : ¬ x = 22) (z23 : ¬ x = 23) (z24 : ¬ x = 24) (z25 : ¬ x = 25) (z26 : ¬ x = 26) (z27 : ¬ x = 27) : x.toInt < 0 ∨ 27 < x.toInt := by
  have e0 : ¬ x.toInt = 0 := fun e => z0 (Int32.toInt_inj.mp (e.trans (by decide)))
  have e1 : ¬ x.toInt = 1 := fun e => z1 (Int32.toInt_inj.mp (e.trans (by decide)))
  have e2 : ¬ x.toInt = 2 := fun e => z2 (Int32.toInt_inj.mp (e.trans (by decide)))
  have e3 : ¬ x.toInt = 3 := fun e => z3 (Int32.toInt_inj.mp (e.trans (by decide)))
  have e4 : ¬ x.toInt = 4 := fun e => z4 (Int32.toInt_inj.mp (e.trans (by decide)))
  have e5 : ¬ x.toInt = 5 := fun e => z5 (Int32.toInt_inj.mp (e.trans (by decide)))
  have e6 : ¬ x.toInt = 6 := fun e => z6 (Int32.toInt_inj.mp (e.trans (by decide)))
  have e7 : ¬ x.toInt = 7 := fun e => z7 (Int32.toInt_inj.mp (e.trans (by decide)))
  have e8 : ¬ x.toInt = 8 := fun e => z8 (Int32.toInt_inj.mp (e.trans (by decide)))
  have e9 : ¬ x.toInt = 9 := fun e => z9 (Int32.toInt_inj.mp (e.trans (by decide)))
  have e10 : ¬ x.toInt = 10 := fun e => z10 (Int32.toInt_inj.mp (e.trans (by decide)))
  have e11 : ¬ x.toInt = 11 := fun e => z11 (Int32.toInt_inj.mp (e.trans (by decide)))
  have e12 : ¬ x.toInt = 12 := fun e => z12 (Int32.toInt_inj.mp (e.trans (by decide)))
  have e13 : ¬ x.toInt = 13 := fun e => z13 (Int32.toInt_inj.mp (e.trans (by decide)))
  have e14 : ¬ x.toInt = 14 := fun e => z14 (Int32.toInt_inj.mp (e.trans (by decide)))
  have e15 : ¬ x.toInt = 15 := fun e => z15 (Int32.toInt_inj.mp (e.trans (by decide)))
  have e16 : ¬ x.toInt = 16 := fun e => z16 (Int32.toInt_inj.mp (e.trans (by decide)))
  have e17 : ¬ x.toInt = 17 := fun e => z17 (Int32.toInt_inj.mp (e.trans (by decide)))
  have e18 : ¬ x.toInt = 18 := fun e => z18 (Int32.toInt_inj.mp (e.trans (by decide)))
  have e19 : ¬ x.toInt = 19 := fun e => z19 (Int32.toInt_inj.mp (e.trans (by decide)))
  have e20 : ¬ x.toInt = 20 := fun e => z20 (Int32.toInt_inj.mp (e.trans (by decide)))
  have e21 : ¬ x.toInt = 21 := fun e => z21 (Int32.toInt_inj.mp (e.trans (by decide)))
  have e22 : ¬ x.toInt = 22 := fun e => z22 (Int32.toInt_inj.mp (e.trans (by decide)))
  have e23 : ¬ x.toInt = 23 := fun e => z23 (Int32.toInt_inj.mp (e.trans (by decide)))
  have e24 : ¬ x.toInt = 24 := fun e => z24 (Int32.toInt_inj.mp (e.trans (by decide)))
  have e25 : ¬ x.toInt = 25 := fun e => z25 (Int32.toInt_inj.mp (e.trans (by decide)))
  have e26 : ¬ x.toInt = 26 := fun e => z26 (Int32.toInt_inj.mp (e.trans (by decide)))
  have e27 : ¬ x.toInt = 27 := fun e => z27 (Int32.toInt_inj.mp (e.trans (by decide)))
  omega
theorem ic_m1 : Int32.ofInt (-1) = (-1) := by decide
theorem ic_0 : Int32.ofInt (0) = 0 := by decide
theorem ic_1 : Int32.ofInt (1) = 1 := by decide
theorem ic_2 : Int32.ofInt (2) = 2 := by decide
theorem ic_3 : Int32.ofInt (3) = 3 := by decide
theorem ic_4 : Int32.ofInt (4) = 4 := by decide
theorem ic_5 : Int32.ofInt (5) = 5 := by decide
theorem bp_m5 : (Int8.ofInt (-5)).toInt32 = (-5) := by decide
theorem bp_m4 : (Int8.ofInt (-4)).toInt32 = (-4) := by decide
theorem bp_m3 : (Int8.ofInt (-3)).toInt32 = (-3) := by decide
theorem bp_m2 : (Int8.ofInt (-2)).toInt32 = (-2) := by decide
theorem bp_6 : (Int8.ofInt (6)).toInt32 = 6 := by decide
theorem bp_7 : (Int8.ofInt (7)).toInt32 = 7 := by decide
theorem bp_8 : (Int8.ofInt (8)).toInt32 = 8 := by decide
theorem bp_9 : (Int8.ofInt (9)).toInt32 = 9 := by decide
theorem bp_10 : (Int8.ofInt (10)).toInt32 = 10 := by decide
theorem bp_13 : (Int8.ofInt (13)).toInt32 = 13 := by decide
theorem bp_14 : (Int8.ofInt (14)).toInt32 = 14 := by decide
theorem bp_15 : (Int8.ofInt (15)).toInt32 = 15 := by decide
theorem bp_17 : (Int8.ofInt (17)).toInt32 = 17 := by decide
theorem bp_18 : (Int8.ofInt (18)).toInt32 = 18 := by decide
theorem bp_20 : (Int8.ofInt (20)).toInt32 = 20 := by decide
theorem bp_25 : (Int8.ofInt (25)).toInt32 = 25 := by decide
theorem bp_26 : (Int8.ofInt (26)).toInt32 = 26 := by decide
theorem bp_30 : (Int8.ofInt (30)).toInt32 = 30 := by decide
theorem bp_31 : (Int8.ofInt (31)).toInt32 = 31 := by decide
theorem bp_32 : (Int8.ofInt (32)).toInt32 = 32 := by decide
theorem bp_34 : (Int8.ofInt (34)).toInt32 = 34 := by decide
theorem bp_36 : (Int8.ofInt (36)).toInt32 = 36 := by decide
theorem bp_39 : (Int8.ofInt (39)).toInt32 = 39 := by decide
theorem bp_44 : (Int8.ofInt (44)).toInt32 = 44 := by decide
theorem bp_48 : (Int8.ofInt (48)).toInt32 = 48 := by decide
theorem bp_49 : (Int8.ofInt (49)).toInt32 = 49 := by decide
theorem bp_50 : (Int8.ofInt (50)).toInt32 = 50 := by decide
theorem bp_51 : (Int8.ofInt (51)).toInt32 = 51 := by decide
theorem bp_52 : (Int8.ofInt (52)).toInt32 = 52 := by decide
theorem bp_57 : (Int8.ofInt (57)).toInt32 = 57 := by decide
theorem bp_59 : (Int8.ofInt (59)).toInt32 = 59 := by decide
theorem bp_64 : (Int8.ofInt (64)).toInt32 = 64 := by decide
theorem bp_97 : (Int8.ofInt (97)).toInt32 = 97 := by decide
theorem bp_104 : (Int8.ofInt (104)).toInt32 = 104 := by decide
theorem bp_122 : (Int8.ofInt (122)).toInt32 = 122 := by decide
theorem sp_160 : (Int16.ofInt (160)).toInt32 = 160 := by decide
theorem sp_255 : (Int16.ofInt (255)).toInt32 = 255 := by decide
theorem sp_364 : (Int16.ofInt (364)).toInt32 = 364 := by decide
theorem sp_416 : (Int16.ofInt (416)).toInt32 = 416 := by decide
theorem sp_999 : (Int16.ofInt (999)).toInt32 = 999 := by decide
theorem sp_9999 : (Int16.ofInt (9999)).toInt32 = 9999 := by decide
theorem inc_1 (x : Int32) : x + Int32.ofInt 1 = x + 1 := by rw [ic_1]
theorem inc_5 (x : Int32) : x + Int32.ofInt 5 = x + 5 := by rw [ic_5]
theorem lc_0 : Int64.ofNat ((0 : Fin 2) : Nat) = 0 := by decide
theorem lc_1 : Int64.ofNat ((1 : Fin 2) : Nat) = 1 := by decide
theorem ft_0_0 : ftc 0 0 = 1 := by decide
theorem ft_0_1 : ftc 0 1 = 1 := by decide
theorem ft_0_2 : ftc 0 2 = 1 := by decide
theorem ft_0_3 : ftc 0 3 = 0 := by decide
theorem pn_0_3 {M : MD} : PF M 0 3 := Or.inl rfl
theorem ft_1_0 : ftc 1 0 = 1 := by decide
theorem ft_1_1 : ftc 1 1 = 0 := by decide
theorem pn_1_1 {M : MD} : PF M 1 1 := Or.inl rfl
theorem ft_1_2 : ftc 1 2 = 0 := by decide
theorem pn_1_2 {M : MD} : PF M 1 2 := Or.inl rfl
theorem ft_1_3 : ftc 1 3 = 0 := by decide
theorem pn_1_3 {M : MD} : PF M 1 3 := Or.inl rfl
theorem ft_1_4 : ftc 1 4 = 0 := by decide
theorem pn_1_4 {M : MD} : PF M 1 4 := Or.inl rfl
theorem ft_2_0 : ftc 2 0 = 0 := by decide
theorem pn_2_0 {M : MD} : PF M 2 0 := Or.inl rfl
theorem ft_2_1 : ftc 2 1 = 0 := by decide
theorem pn_2_1 {M : MD} : PF M 2 1 := Or.inl rfl
theorem ft_2_2 : ftc 2 2 = 1 := by decide
theorem ft_2_3 : ftc 2 3 = 1 := by decide
theorem ft_2_4 : ftc 2 4 = 1 := by decide
theorem ft_2_5 : ftc 2 5 = 1 := by decide
theorem ft_2_6 : ftc 2 6 = 1 := by decide
theorem ft_2_7 : ftc 2 7 = 1 := by decide
theorem ft_3_0 : ftc 3 0 = 1 := by decide
theorem ft_3_1 : ftc 3 1 = 1 := by decide
theorem ft_3_2 : ftc 3 2 = 1 := by decide
theorem ft_3_3 : ftc 3 3 = 1 := by decide
theorem ft_3_4 : ftc 3 4 = 1 := by decide
theorem ft_3_5 : ftc 3 5 = 1 := by decide
theorem ft_3_6 : ftc 3 6 = 1 := by decide
theorem ft_3_7 : ftc 3 7 = 1 := by decide
theorem ft_3_8 : ftc 3 8 = 1 := by decide
theorem ft_3_9 : ftc 3 9 = 0 := by decide
theorem pn_3_9 {M : MD} : PF M 3 9 := Or.inl rfl
theorem ft_3_10 : ftc 3 10 = 0 := by decide
theorem pn_3_10 {M : MD} : PF M 3 10 := Or.inl rfl
theorem tz_3_10 : tyO 3 10 = .boolean := by decide
theorem ft_3_11 : ftc 3 11 = 0 := by decide
theorem pn_3_11 {M : MD} : PF M 3 11 := Or.inl rfl
theorem ft_3_12 : ftc 3 12 = 0 := by decide
theorem pn_3_12 {M : MD} : PF M 3 12 := Or.inl rfl
theorem ft_3_13 : ftc 3 13 = 0 := by decide
theorem pn_3_13 {M : MD} : PF M 3 13 := Or.inl rfl
theorem ft_4_0 : ftc 4 0 = 1 := by decide
theorem ft_4_1 : ftc 4 1 = 1 := by decide
theorem ft_4_2 : ftc 4 2 = 1 := by decide
theorem ft_4_3 : ftc 4 3 = 1 := by decide
theorem ft_4_4 : ftc 4 4 = 1 := by decide
theorem ft_4_5 : ftc 4 5 = 1 := by decide
theorem ft_4_6 : ftc 4 6 = 0 := by decide
theorem pn_4_6 {M : MD} : PF M 4 6 := Or.inl rfl
theorem ft_4_7 : ftc 4 7 = 1 := by decide
theorem ft_4_8 : ftc 4 8 = 1 := by decide
theorem ft_4_9 : ftc 4 9 = 1 := by decide
theorem ft_4_10 : ftc 4 10 = 1 := by decide
theorem ft_5_0 : ftc 5 0 = 1 := by decide
theorem ft_5_1 : ftc 5 1 = 1 := by decide
theorem ft_5_2 : ftc 5 2 = 1 := by decide
theorem ft_5_3 : ftc 5 3 = 1 := by decide
theorem ft_5_4 : ftc 5 4 = 0 := by decide
theorem pn_5_4 {M : MD} : PF M 5 4 := Or.inl rfl
theorem ft_5_5 : ftc 5 5 = 1 := by decide
theorem ft_5_6 : ftc 5 6 = 1 := by decide
theorem ft_5_7 : ftc 5 7 = 1 := by decide
theorem ft_5_8 : ftc 5 8 = 0 := by decide
theorem pn_5_8 {M : MD} : PF M 5 8 := Or.inl rfl
theorem ft_5_9 : ftc 5 9 = 1 := by decide
theorem ft_5_10 : ftc 5 10 = 0 := by decide
theorem pn_5_10 {M : MD} : PF M 5 10 := Or.inl rfl
theorem ft_5_11 : ftc 5 11 = 0 := by decide
theorem pn_5_11 {M : MD} : PF M 5 11 := Or.inl rfl
theorem ft_5_12 : ftc 5 12 = 0 := by decide
theorem pn_5_12 {M : MD} : PF M 5 12 := Or.inl rfl
theorem ft_5_13 : ftc 5 13 = 0 := by decide
theorem pn_5_13 {M : MD} : PF M 5 13 := Or.inl rfl
theorem ft_5_14 : ftc 5 14 = 2 := by decide
theorem pn_5_14 {M : MD} : PF M 5 14 := Or.inl rfl
theorem ft_5_15 : ftc 5 15 = 0 := by decide
theorem pn_5_15 {M : MD} : PF M 5 15 := Or.inl rfl
theorem ft_5_16 : ftc 5 16 = 0 := by decide
theorem pn_5_16 {M : MD} : PF M 5 16 := Or.inl rfl
theorem ft_5_17 : ftc 5 17 = 1 := by decide
theorem ft_5_18 : ftc 5 18 = 1 := by decide
theorem ft_5_19 : ftc 5 19 = 1 := by decide
theorem ft_5_20 : ftc 5 20 = 1 := by decide
