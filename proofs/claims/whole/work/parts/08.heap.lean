section RN2
variable {G : WG} {M : MD} {cu : Nat × Nat} {pc : Nat} {lv lv' : List (Nat × Value)} {st : List Value} {h : AH} {post : PO}
/-- field k of class ci is no final one, or this is its constructor -/
def PF (M : MD) (ci k : Nat) : Prop := ((vwCl.getD ci ("", fun _ => ("", "", "", false), 0)).2.1 k).2.2.2 = false ∨ ((mY M).name = "<init>" ∧ ((vwCl.getD ci ("", fun _ => ("", "", "", false), 0)).2.1 k).2.2.2 = true ∧ ((vwCl.getD ci ("", fun _ => ("", "", "", false), 0)).2.1 k).1 = (mY M).cls)
theorem ftc_ref {ci k : Nat} (h : ftc ci k = 1) (v : Option Nat) : narrow (tyO ci k) (va_rf v) = va_rf v ∧ fits (tyO ci k) (va_rf v) = true := by
  unfold ftc at h
  cases ht : tyO ci k <;> rw [ht] at h <;> first | (exact absurd h (by decide)) | (cases v <;> exact ⟨rfl, rfl⟩)
theorem rn_putI (q : Nat) {idx ci n k o : Nat} {x : Int32} (hd : decode (mC M) pc = .ok (.putfield idx, 3)) (hq : pc + 3 = q) (hf : FL (mY M).cls idx ci k) (hfin : PF M ci k) (ht : ftc ci k = 0) (hi : Is h o ci n) (hn : narrow (tyO ci k) (.int x) = .int x) (hfit : fits (tyO ci k) (.int x) = true) (kk : Rn G M cu q lv st (sI h o k x) post) : Rn G M cu pc lv (.int x :: .ref (ad G o) :: st) h post := by
  have e : hI (sI h o k x) o = upd (hI h o) k x := ups
  refine rn_putf (h' := sI h o k x) q hd hq hf hfin hi hn hfit rfl rfl ?_ ?_ (fun j hj => rdE_sA hj) kk
  · unfold rdF
    rw [if_pos ht, e]
    simp [upd]
  · intro j hj
    unfold rdF
    rw [e]
    simp only [upd, if_neg hj]
    rfl
theorem rn_putL (q : Nat) {idx ci n k o : Nat} {x : Int64} (hd : decode (mC M) pc = .ok (.putfield idx, 3)) (hq : pc + 3 = q) (hf : FL (mY M).cls idx ci k) (hfin : PF M ci k) (ht : ftc ci k = 2) (hi : Is h o ci n) (hn : narrow (tyO ci k) (.long x) = .long x) (hfit : fits (tyO ci k) (.long x) = true) (kk : Rn G M cu q lv st (sL h o k x) post) : Rn G M cu pc lv (.long x :: .ref (ad G o) :: st) h post := by
  have e : hL (sL h o k x) o = va_up (hL h o) k x := ups
  refine rn_putf (h' := sL h o k x) q hd hq hf hfin hi hn hfit rfl rfl ?_ ?_ (fun j hj => rdE_sL hj) kk
  · unfold rdF
    rw [ht, e]
    simp [va_up]
  · intro j hj
    unfold rdF
    rw [e]
    simp only [va_up, if_neg hj]
    rfl
theorem rn_putR (q : Nat) {idx ci n k o : Nat} {v : Nat} (hd : decode (mC M) pc = .ok (.putfield idx, 3)) (hq : pc + 3 = q) (hf : FL (mY M).cls idx ci k) (hfin : PF M ci k) (ht : ftc ci k = 1) (hi : Is h o ci n) (kk : Rn G M cu q lv st (sR h o k (some v)) post) : Rn G M cu pc lv (.ref (ad G v) :: .ref (ad G o) :: st) h post := by
  have e : hR (sR h o k (some v)) o = va_up (hR h o) k (some v) := ups
  refine rn_putf (h' := sR h o k (some v)) q hd hq hf hfin hi (ftc_ref ht (some (ad G v))).1 (ftc_ref ht (some (ad G v))).2 rfl rfl ?_ ?_ (fun j hj => rdE_sR hj) kk
  · unfold rdF
    rw [ht, e]
    simp [va_up, va_rf]
  · intro j hj
    unfold rdF
    rw [e]
    simp only [va_up, if_neg hj]
    rfl
theorem rdE_I {o n : Nat} (hi : Is h o 10 n) : rdE G h o = .inl (gI G, n, .inl (hI h o)) := by
  unfold rdE; rw [hi.2]; rfl
theorem rdE_C {o n : Nat} (hi : Is h o 11 n) : rdE G h o = .inl (gC G, n, .inl (hI h o)) := by
  unfold rdE; rw [hi.2]; rfl
theorem rdE_Z {o n : Nat} (hi : Is h o 12 n) : rdE G h o = .inl (gZ G, n, .inl (hI h o)) := by
  unfold rdE; rw [hi.2]; rfl
theorem rdE_Y {o n : Nat} (hi : Is h o 13 n) : rdE G h o = .inl (gY G, n, .inr (.inr (.inr (.inr (fun i => (hR h o i).map (ad G)))))) := by
  unfold rdE; rw [hi.2]; rfl

theorem rn_iald (q : Nat) {o n : Nat} {x : Int32} (hd : decode (mC M) pc = .ok (.iaload, 1)) (hq : pc + 1 = q) (hi : Is h o 10 n) (hx : vp_in x n) (kk : Rn G M cu q lv (.int (hI h o x.toNatClampNeg) :: st) h post) : Rn G M cu pc lv (.int x :: .ref (ad G o) :: st) h post := by
  subst hq
  intro p e s m args below meth c H locs Q ls C Y rR rS hz hl
  have he := rdW_get (G := G) hi.1
  rw [rdE_I hi] at he
  exact va_iald C.1 C.2.1 C.2.2.2.2.2.2.2.1.2.1 rR o 0 he rfl hx hd (kk p e s m args below meth c H locs Q ls C Y rR rS hz hl)
theorem rn_cald (q : Nat) {o n : Nat} {x : Int32} (hd : decode (mC M) pc = .ok (.caload, 1)) (hq : pc + 1 = q) (hi : Is h o 11 n) (hx : vp_in x n) (kk : Rn G M cu q lv (.int (hI h o x.toNatClampNeg) :: st) h post) : Rn G M cu pc lv (.int x :: .ref (ad G o) :: st) h post := by
  subst hq
  intro p e s m args below meth c H locs Q ls C Y rR rS hz hl
  have he := rdW_get (G := G) hi.1
  rw [rdE_C hi] at he
  exact va_cald C.1 C.2.1 C.2.2.2.2.2.2.2.1.2.1 rR o 1 he rfl hx hd (kk p e s m args below meth c H locs Q ls C Y rR rS hz hl)
theorem rn_zald (q : Nat) {o n : Nat} {x : Int32} (hd : decode (mC M) pc = .ok (.baload, 1)) (hq : pc + 1 = q) (hi : Is h o 12 n) (hx : vp_in x n) (kk : Rn G M cu q lv (.int (hI h o x.toNatClampNeg) :: st) h post) : Rn G M cu pc lv (.int x :: .ref (ad G o) :: st) h post := by
  subst hq
  intro p e s m args below meth c H locs Q ls C Y rR rS hz hl
  have he := rdW_get (G := G) hi.1
  rw [rdE_Z hi] at he
  exact va_zald C.1 C.2.1 C.2.2.2.2.2.2.2.1.2.1 rR o 2 he rfl hx hd (kk p e s m args below meth c H locs Q ls C Y rR rS hz hl)
theorem rn_iast (q : Nat) {o n : Nat} {i x : Int32} (hd : decode (mC M) pc = .ok (.iastore, 1)) (hq : pc + 1 = q) (hi : Is h o 10 n) (hx : vp_in i n) (kk : Rn G M cu q lv st (sI h o i.toNatClampNeg x) post) : Rn G M cu pc lv (.int x :: .int i :: .ref (ad G o) :: st) h post := by
  subst hq
  intro p e s m args below meth c H locs Q ls C Y rR rS hz hl
  have he := rdW_get (G := G) hi.1
  rw [rdE_I hi] at he
  have ee : hI (sI h o i.toNatClampNeg x) o = upd (hI h o) i.toNatClampNeg x := ups
  refine va_iast C.1 C.2.1 C.2.2.2.2.2.2.2.1.2.1 rR (rdW_D G h) rS o 0 he rfl hx hd (fun H1 locs1 hP1 _ hS1 => ?_)
  rw [rdW_set (h' := sI h o i.toNatClampNeg x) hi.1 rfl (by rw [rdE_I (h := sI h o i.toNatClampNeg x) hi, ee]) (fun j hj => rdE_sA hj)] at hP1
  exact kk p e s m args below meth c H1 locs1 Q ls C Y hP1 hS1 hz hl
theorem rn_cast (q : Nat) {o n : Nat} {i x : Int32} (hd : decode (mC M) pc = .ok (.castore, 1)) (hq : pc + 1 = q) (hi : Is h o 11 n) (hx : vp_in i n) (kk : Rn G M cu q lv st (sI h o i.toNatClampNeg (vp_nar .char x)) post) : Rn G M cu pc lv (.int x :: .int i :: .ref (ad G o) :: st) h post := by
  subst hq
  intro p e s m args below meth c H locs Q ls C Y rR rS hz hl
  have he := rdW_get (G := G) hi.1
  rw [rdE_C hi] at he
  have ee : hI (sI h o i.toNatClampNeg (vp_nar .char x)) o = upd (hI h o) i.toNatClampNeg (vp_nar .char x) := ups
  refine va_cast C.1 C.2.1 C.2.2.2.2.2.2.2.1.2.1 rR (rdW_D G h) rS o 1 he rfl hx hd (fun H1 locs1 hP1 _ hS1 => ?_)
  rw [rdW_set (h' := sI h o i.toNatClampNeg (vp_nar .char x)) hi.1 rfl (by rw [rdE_C (h := sI h o i.toNatClampNeg (vp_nar .char x)) hi, ee]) (fun j hj => rdE_sA hj)] at hP1
  exact kk p e s m args below meth c H1 locs1 Q ls C Y hP1 hS1 hz hl
theorem rn_zast (q : Nat) {o n : Nat} {i x : Int32} (hd : decode (mC M) pc = .ok (.bastore, 1)) (hq : pc + 1 = q) (hi : Is h o 12 n) (hx : vp_in i n) (kk : Rn G M cu q lv st (sI h o i.toNatClampNeg (vp_nar .boolean x)) post) : Rn G M cu pc lv (.int x :: .int i :: .ref (ad G o) :: st) h post := by
  subst hq
  intro p e s m args below meth c H locs Q ls C Y rR rS hz hl
  have he := rdW_get (G := G) hi.1
  rw [rdE_Z hi] at he
  have ee : hI (sI h o i.toNatClampNeg (vp_nar .boolean x)) o = upd (hI h o) i.toNatClampNeg (vp_nar .boolean x) := ups
  refine va_zast C.1 C.2.1 C.2.2.2.2.2.2.2.1.2.1 rR (rdW_D G h) rS o 2 he rfl hx hd (fun H1 locs1 hP1 _ hS1 => ?_)
  rw [rdW_set (h' := sI h o i.toNatClampNeg (vp_nar .boolean x)) hi.1 rfl (by rw [rdE_Z (h := sI h o i.toNatClampNeg (vp_nar .boolean x)) hi, ee]) (fun j hj => rdE_sA hj)] at hP1
  exact kk p e s m args below meth c H1 locs1 Q ls C Y hP1 hS1 hz hl
theorem rn_alen (q : Nat) {o n : Nat} (hd : decode (mC M) pc = .ok (.arraylength, 1)) (hq : pc + 1 = q) (hi : Is h o 10 n) (kk : Rn G M cu q lv (.int (nI n) :: st) h post) : Rn G M cu pc lv (.ref (ad G o) :: st) h post := by
  subst hq
  intro p e s m args below meth c H locs Q ls C Y rR rS hz hl
  have he := rdW_get (G := G) hi.1
  rw [rdE_I hi] at he
  exact va_alen C.1 C.2.1 C.2.2.2.2.2.2.2.1.2.1 rR o 0 he rfl rfl hd (kk p e s m args below meth c H locs Q ls C Y rR rS hz hl)
theorem rn_aald (q : Nat) {o n : Nat} (v : Nat) {x : Int32} (hd : decode (mC M) pc = .ok (.aaload, 1)) (hq : pc + 1 = q) (hi : Is h o 13 n) (hx : vp_in x n) (hv : hR h o x.toNatClampNeg = some v) (kk : Rn G M cu q lv (.ref (ad G v) :: st) h post) : Rn G M cu pc lv (.int x :: .ref (ad G o) :: st) h post := by
  subst hq
  intro p e s m args below meth c H locs Q ls C Y rR rS hz hl
  have he := rdW_get (G := G) hi.1
  rw [rdE_Y hi] at he
  refine va_aldq C.1 C.2.1 C.2.2.2.2.2.2.2.1.2.1 rR o 3 he rfl hx hd ?_
  rw [hv]
  exact (kk p e s m args below meth c H locs Q ls C Y rR rS hz hl)
theorem rn_aast (q : Nat) {o n v nv : Nat} {i : Int32} (hd : decode (mC M) pc = .ok (.aastore, 1)) (hq : pc + 1 = q) (hi : Is h o 13 n) (hx : vp_in i n) (hv : Is h v 3 nv) (kk : Rn G M cu q lv st (sR h o i.toNatClampNeg (some v)) post) : Rn G M cu pc lv (.ref (ad G v) :: .int i :: .ref (ad G o) :: st) h post := by
  subst hq
  intro p e s m args below meth c H locs Q ls C Y rR rS hz hl
  have he := rdW_get (G := G) hi.1
  rw [rdE_Y hi] at he
  have hev := rdW_get (G := G) hv.1
  rw [rdE_obj hv (by decide)] at hev
  have ee : hR (sR h o i.toNatClampNeg (some v)) o = va_up (hR h o) i.toNatClampNeg (some v) := ups
  refine va_astq (r := (RX3, TX3, 14)) C.1 C.2.1 C.2.2.2.2.2.2.2.1.2.1 rR (rdW_D G h) rS o 3 v 3 he rfl hev rfl hx hd (fun H1 locs1 hP1 _ hS1 => ?_)
  rw [rdW_set (h' := sR h o i.toNatClampNeg (some v)) hi.1 rfl ?_ (fun j hj => rdE_sR hj)] at hP1
  · exact kk p e s m args below meth c H1 locs1 Q ls C Y hP1 hS1 hz hl
  · rw [rdE_Y (h := sR h o i.toNatClampNeg (some v)) hi, ee]
    have e3 : (fun j => (va_up (hR h o) i.toNatClampNeg (some v) j).map (ad G)) = va_up (fun j => (hR h o j).map (ad G)) i.toNatClampNeg (some (ad G v)) := by
      funext j
      unfold va_up
      by_cases hj : j = i.toNatClampNeg
      · rw [if_pos hj, if_pos hj]; rfl
      · rw [if_neg hj, if_neg hj]
    rw [e3]
/-- System.arraycopy of int rows -/
theorem rn_copy (q : Nat) {idx o1 o2 n1 n2 : Nat} {sp dp n : Int32} (hd : decode (mC M) pc = .ok (.invokestatic idx, 3)) (hq : pc + 3 = q) (hw : Cond.methodLink (mY M).cls idx arraycopyName ∈ lw_g) (hrm : 1 ≤ (mR M).frames ∧ (st.map fun v => v.category).sum + (nativeFrameWords "java/lang/System" "arraycopy" 5 + 11) ≤ (mR M).locals) (hi1 : Is h o1 10 n1) (hi2 : Is h o2 10 n2) (h1 : ¬ sp < 0) (h2 : ¬ dp < 0) (h3 : ¬ n < 0) (h4 : sp.toNatClampNeg + n.toNatClampNeg ≤ n1) (h5 : dp.toNatClampNeg + n.toNatClampNeg ≤ n2) (kk : Rn G M cu q lv st (sA h o2 (va_cpy (hI h o1) (hI h o2) sp.toNatClampNeg dp.toNatClampNeg n.toNatClampNeg)) post) : Rn G M cu pc lv (.int n :: .int dp :: .ref (ad G o2) :: .int sp :: .ref (ad G o1) :: st) h post := by
  subst hq
  intro p e s m args below meth c H locs Q ls C Y rR rS hz hl
  have he1 := rdW_get (G := G) hi1.1
  rw [rdE_I hi1] at he1
  have he2 := rdW_get (G := G) hi2.1
  rw [rdE_I hi2] at he2
  have ee : hI (sA h o2 (va_cpy (hI h o1) (hI h o2) sp.toNatClampNeg dp.toNatClampNeg n.toNatClampNeg)) o2 = (va_cpy (hI h o1) (hI h o2) sp.toNatClampNeg dp.toNatClampNeg n.toNatClampNeg) := ups
  refine va_copyi C.1 C.2.1 (C.2.2.2.2.1.trans hl.1.symm) C.2.2.2.2.2.1 (C.2.2.2.2.2.2.1 _ hw) (C.2.2.2.2.2.2.1 (.native arraycopyName) (by decide +kernel)) (C.2.2.2.2.2.2.1 (.static arraycopyName) (by decide +kernel)) (C.2.2.2.2.2.2.1 (.initialized "java/lang/System") (by decide +kernel)) C.2.2.2.2.2.2.2.1.2.1 rR (rdW_D G h) rS o1 o2 0 0 he1 he2 rfl rfl rfl h1 h2 h3 h4 h5 (fun i _ => rfl) hrm.1 hrm.2 hd (fun H1 locs1 hP1 _ hS1 => ?_)
  rw [rdW_set (h' := sA h o2 (va_cpy (hI h o1) (hI h o2) sp.toNatClampNeg dp.toNatClampNeg n.toNatClampNeg)) hi2.1 rfl (by rw [rdE_I (h := sA h o2 (va_cpy (hI h o1) (hI h o2) sp.toNatClampNeg dp.toNatClampNeg n.toNatClampNeg)) hi2, ee]) (fun j hj => rdE_sA hj)] at hP1
  exact kk p e s m args below meth c H1 locs1 Q ls C Y hP1 hS1 hz hl
/-- new objects, new rows -/
theorem rn_newa (q tag : Nat) {n : Int32} {N : Nat} {at0 : ArrayType} (hd : decode (mC M) pc = .ok (.newarray at0, 2)) (hq : pc + 2 = q) (htag : (tag = 10 ∧ newarray.typeOf at0 = .int) ∨ (tag = 11 ∧ newarray.typeOf at0 = .char) ∨ (tag = 12 ∧ newarray.typeOf at0 = .boolean)) (hn : ¬ n < 0) (hNn : n.toNatClampNeg = N) (hb : N ≤ 1000) (hc : cu.1 + 1 ≤ (mR M).cells) (hs : cu.2 + N ≤ (mR M).slots) (kk : Rn G M (cu.1 + 1, cu.2 + N) q lv (.ref (ad G (hN h)) :: st) (sN h tag N) post) : Rn G M cu pc lv (.int n :: st) h post := by
  subst hq
  intro p e s m args below meth c H locs Q ls C Y rR rS hz hl
  intro T hT X
  have hsz := rR.size C.2.2.2.2.2.2.2.1 rS hz hT X
  have hK := C.2.2.2.2.2.2.2.1.2.1
  have harr : (Cond.arrayClass (newarray.typeOf at0)).before args s = true := by
    rcases htag with ⟨-, h0⟩ | ⟨-, h0⟩ | ⟨-, h0⟩ <;> rw [h0] <;> exact C.2.2.2.2.2.2.1 _ (by decide +kernel)
  have hbytes : N * componentBytes (newarray.typeOf at0) ≤ 536870912 := by
    rcases htag with ⟨-, h0⟩ | ⟨-, h0⟩ | ⟨-, h0⟩ <;> rw [h0] <;> simp [componentBytes] <;> omega
  refine va_newaK C.1 C.2.1 harr (g := F0 m pc ls (.int n :: st)) rfl hd rfl hn hNn hbytes hc hs hsz (fun H1 cA e1 z1 o1 hAr hNm => ?_) T hT X
  have hP1 : va_P (gD G) vwCl (rdW G (sN h tag N)) H1 := by
    intro k q0 hk
    obtain ⟨hlt, rfl⟩ := rdW_inv hk
    have hlt : k < hN h + 1 := hlt
    by_cases hk2 : k < hN h
    · rw [rdE_sN hk2]
      exact (rR k _ (rdW_get hk2)).kept (o1 _ (by show gS G + k < _; omega))
    · have hk3 : k = hN h := by omega
      subst hk3
      show va_at _ _ (ad G (hN h), rdE G (sN h tag N) (hN h)) H1
      have ei : hI (sN h tag N) (hN h) = fun _ => 0 := ups
      have es : Is (sN h tag N) (hN h) tag N := ⟨Nat.lt_succ_self _, ups⟩
      rcases htag with ⟨rfl, h0⟩ | ⟨rfl, h0⟩ | ⟨rfl, h0⟩
      · have hcA : cA = gI G := by
          have := (hK.2 0 (gI G, .int) rfl).2
          rw [h0] at hNm
          exact Option.some.inj (hNm.symm.trans this)
        rw [rdE_I es, ei]
        rw [h0, hcA] at e1
        exact e1
      · have hcA : cA = gC G := by
          have := (hK.2 1 (gC G, .char) rfl).2
          rw [h0] at hNm
          exact Option.some.inj (hNm.symm.trans this)
        rw [rdE_C es, ei]
        rw [h0, hcA] at e1
        exact e1
      · have hcA : cA = gZ G := by
          have := (hK.2 2 (gZ G, .boolean) rfl).2
          rw [h0] at hNm
          exact Option.some.inj (hNm.symm.trans this)
        rw [rdE_Z es, ei]
        rw [h0, hcA] at e1
        exact e1
  exact kk p e s m args below meth c H1 locs Q ls C Y hP1 ⟨Nat.le_trans rS.1 (by omega), fun x x1 x2 => (o1 x (by have := rS.1; omega)).trans (rS.2.1 x x1 x2), rS.2.2⟩ (by show s.heap.size + (cu.1 + 1) = gS G + (hN h + 1); omega) hl
theorem rn_newq (q : Nat) {n : Int32} {N idx : Nat} (hd : decode (mC M) pc = .ok (.anewarray idx, 3)) (hq : pc + 3 = q) (hw : Cond.classLink (mY M).cls idx RX3 ∈ lw_g) (hn : ¬ n < 0) (hNn : n.toNatClampNeg = N) (hb : N ≤ 1000) (hc : cu.1 + 1 ≤ (mR M).cells) (hs : cu.2 + N ≤ (mR M).slots) (kk : Rn G M (cu.1 + 1, cu.2 + N) q lv (.ref (ad G (hN h)) :: st) (sN h 13 N) post) : Rn G M cu pc lv (.int n :: st) h post := by
  subst hq
  intro p e s m args below meth c H locs Q ls C Y rR rS hz hl
  intro T hT X
  have hsz := rR.size C.2.2.2.2.2.2.2.1 rS hz hT X
  have hK := C.2.2.2.2.2.2.2.1.2.1
  subst hNn
  refine W.anew C.1 C.2.1 C.2.2.2.2.2.1 (C.2.2.2.2.2.2.1 _ hw) (va_AO.use C.2.2.2.2.2.2.2.1.2.2.2.2.2.2.2.1) (g := F0 m pc ls (.int n :: st)) rfl hd rfl hn (by omega) hc hs (fun cA kA comp f1 f2 f3 f4 => ?_) T hT X
  generalize hH1 : H.push ({ cls := cA, slots := Array.replicate n.toNatClampNeg .null, vm := .none } : Cell) = H1
  have z1 : H1.size = H.size + 1 := by rw [← hH1, Array.size_push]
  have e1 : H1[H.size]? = some (arrV cA n.toNatClampNeg (fun _ => .null)) := by rw [← hH1, Array.getElem?_push_size, ← arrV_new]
  have o1 : ∀ q : Nat, q < H.size → H1[q]? = H[q]? := fun q hq => by rw [← hH1, Array.getElem?_push, if_neg (Nat.ne_of_lt hq)]
  rw [hsz] at e1 z1 o1
  have hP1 : va_P (gD G) vwCl (rdW G (sN h 13 n.toNatClampNeg)) H1 := by
    intro k q0 hk
    obtain ⟨hlt, rfl⟩ := rdW_inv hk
    have hlt : k < hN h + 1 := hlt
    by_cases hk2 : k < hN h
    · rw [rdE_sN hk2]
      exact (rR k _ (rdW_get hk2)).kept (o1 _ (by show gS G + k < _; omega))
    · have hk3 : k = hN h := by omega
      subst hk3
      show va_at _ _ (ad G (hN h), rdE G (sN h 13 n.toNatClampNeg) (hN h)) H1
      have ei : hR (sN h 13 n.toNatClampNeg) (hN h) = fun _ => none := ups
      have es : Is (sN h 13 n.toNatClampNeg) (hN h) 13 n.toNatClampNeg := ⟨Nat.lt_succ_self _, ups⟩
      have hcA : cA = gY G := by
        obtain ⟨kA2, comp2, -, -, -, g4⟩ := (hK.2 3 (gY G, .object RX3) rfl).2
        exact Option.some.inj (f1.symm.trans g4)
      rw [rdE_Y es, ei, ← hcA]
      exact e1
  rw [hsz]
  exact kk p e s m args below meth c H1 locs Q ls C Y hP1 ⟨Nat.le_trans rS.1 (by omega), fun x x1 x2 => (o1 x (by have := rS.1; omega)).trans (rS.2.1 x x1 x2), rS.2.2⟩ (by show s.heap.size + (cu.1 + 1) = gS G + (hN h + 1); omega) hl
def dfl (ci : Nat) : List Value := (List.range (nfO ci)).map (fun j => if ftc ci j = 0 then .int 0 else if ftc ci j = 2 then .long 0 else .null)
theorem dfl_ok : ∀ ci, ci < 6 → ∀ j, j < nfO ci → defaultValue (tyO ci j) = vp_V (dfl ci) j := by
  intro ci hci j hj
  have : ((List.range 6).all fun ci => (List.range (nfO ci)).all fun j => decide (defaultValue (tyO ci j) = vp_V (dfl ci) j)) = true := by decide +kernel
  rw [List.all_eq_true] at this
  have h1 := this ci (List.mem_range.mpr hci)
  rw [List.all_eq_true] at h1
  exact of_decide_eq_true (h1 j (List.mem_range.mpr hj))
theorem rn_new (q ci : Nat) {idx : Nat} (hd : decode (mC M) pc = .ok (.new idx, 3)) (hq : pc + 3 = q) (hw : ∃ r : vw_C, vwCl[ci]? = some r ∧ Cond.classLink (mY M).cls idx r.1 ∈ lw_g ∧ Cond.instantiable r.1 r.2.2 ∈ lw_g ∧ Cond.initialized r.1 ∈ lw_g) (hc : cu.1 + 1 ≤ (mR M).cells) (hs : cu.2 + nfO ci ≤ (mR M).slots) (kk : Rn G M (cu.1 + 1, cu.2 + nfO ci) q lv (.ref (ad G (hN h)) :: st) (sN h ci (nfO ci)) post) : Rn G M cu pc lv st h post := by
  subst hq
  intro p e s m args below meth c H locs Q ls C Y rR rS hz hl
  intro T hT X
  have hsz := rR.size C.2.2.2.2.2.2.2.1 rS hz hT X
  have hK := C.2.2.2.2.2.2.2.1.2.1
  obtain ⟨r, hr, w1, w2, w3⟩ := hw
  obtain ⟨c1, c2, c3, c4, c5⟩ := cl_ok ci r hr
  have hKn := hK.1 ci _ hr
  rw [← c2] at hs
  refine W.newcK C.1 C.2.1 C.2.2.2.2.2.1 (C.2.2.2.2.2.2.1 _ w1) (C.2.2.2.2.2.2.1 _ w2) (C.2.2.2.2.2.2.1 _ w3) (g := F0 m pc ls st) rfl hd hc hs hKn.2.1 hsz (fun H1 kC hkC e1 z1 o1 => ?_) T hT X
  have hP1 : va_P (gD G) vwCl (rdW G (sN h ci (nfO ci))) H1 := by
    intro k q0 hk
    obtain ⟨hlt, rfl⟩ := rdW_inv hk
    have hlt : k < hN h + 1 := hlt
    by_cases hk2 : k < hN h
    · rw [rdE_sN hk2]
      exact (rR k _ (rdW_get hk2)).kept (o1 _ (by show gS G + k < _; omega))
    · have hk3 : k = hN h := by omega
      subst hk3
      show va_at _ _ (ad G (hN h), rdE G (sN h ci (nfO ci)) (hN h)) H1
      have es : Is (sN h ci (nfO ci)) (hN h) ci (nfO ci) := ⟨Nat.lt_succ_self _, ups⟩
      rw [rdE_obj es c1]
      have e0 : (List.range (nfO ci)).map (rdF G (sN h ci (nfO ci)) (hN h) ci) = dfl ci := by
        unfold dfl
        apply List.map_congr_left
        intro j _
        unfold rdF
        have ei : hI (sN h ci (nfO ci)) (hN h) = fun _ => 0 := ups
        have er : hR (sN h ci (nfO ci)) (hN h) = fun _ => none := ups
        have el : hL (sN h ci (nfO ci)) (hN h) = fun _ => 0 := ups
        rw [ei, er, el]
        rfl
      rw [e0]
      exact ⟨_, hr, (u_born (tyO ci) C.2.2.2.2.2.2.1 c3 hKn hkC e1 c4).to (fun j hj => dfl_ok ci c1 j (by rw [← c2]; exact hj))⟩
  rw [← c2] at kk hP1
  exact kk p e s m args below meth c H1 locs Q ls C Y hP1 ⟨Nat.le_trans rS.1 (by omega), fun x x1 x2 => (o1 x (by have := rS.1; omega)).trans (rS.2.1 x x1 x2), rS.2.2⟩ (by show s.heap.size + (cu.1 + 1) = gS G + (hN h + 1); omega) hl
theorem rn_objInit (q : Nat) {idx a : Nat} (hd : decode (mC M) pc = .ok (.invokespecial idx, 3)) (hq : pc + 3 = q) (hw : Cond.methodLink (mY M).cls idx Lib.objectInit ∈ lw_g) (hrm : 1 ≤ (mR M).frames ∧ (st.map fun v => v.category).sum + 12 ≤ (mR M).locals) (kk : Rn G M cu q lv st h post) : Rn G M cu pc lv (.ref a :: st) h post := by
  subst hq
  intro p e s m args below meth c H locs Q ls C Y rR rS hz hl
  exact W.objInit C.1 C.2.1 C.2.2.2.2.2.1 (C.2.2.2.2.2.2.1 _ hw) (C.2.2.2.2.2.2.1 (.instanceMethod Lib.objectInit) (by decide +kernel)) (C.2.2.2.2.2.2.1 (.code Lib.objectInit ⟨#[0xb1]⟩ 1 none) (by decide +kernel)) (g := F0 m pc ls (.ref a :: st)) rfl (hl.1.trans C.2.2.2.2.1.symm) rfl hd hrm.1 (by have := hrm.2; simpa [JFrame.monitorRoom] using this) (kk p e s m args below meth c H locs Q ls C Y rR rS hz hl)
end RN2
