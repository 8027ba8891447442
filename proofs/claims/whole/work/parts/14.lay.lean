/-! the objects of both sides by number, and what the operations answer there -/
def lsL : List (Nat × Nat) := [(4, 11), (1, 5), (11, 160), (2, 8), (10, 8), (10, 8), (10, 8), (10, 5), (10, 5), (10, 14), (2, 8), (10, 8), (10, 8), (10, 8), (10, 5), (10, 5), (10, 14), (3, 14), (10, 8), (10, 8), (10, 8), (10, 8), (10, 5), (10, 5), (10, 5), (10, 5), (10, 5), (3, 14), (10, 8), (10, 8), (10, 8), (10, 8), (10, 5), (10, 5), (10, 5), (10, 5), (10, 5), (13, 8), (13, 2), (12, 2), (0, 4), (10, 6), (10, 6), (10, 6), (10, 64), (3, 14), (10, 8), (10, 8), (10, 8), (10, 8), (10, 5), (10, 5), (10, 5), (10, 5), (10, 5), (3, 14), (10, 8), (10, 8), (10, 8), (10, 8), (10, 5), (10, 5), (10, 5), (10, 5), (10, 5), (3, 14), (10, 8), (10, 8), (10, 8), (10, 8), (10, 5), (10, 5), (10, 5), (10, 5), (10, 5), (3, 14), (10, 8), (10, 8), (10, 8), (10, 8), (10, 5), (10, 5), (10, 5), (10, 5), (10, 5), (3, 14), (10, 8), (10, 8), (10, 8), (10, 8), (10, 5), (10, 5), (10, 5), (10, 5), (10, 5), (3, 14), (10, 8), (10, 8), (10, 8), (10, 8), (10, 5), (10, 5), (10, 5), (10, 5), (10, 5), (3, 14), (10, 8), (10, 8), (10, 8), (10, 8), (10, 5), (10, 5), (10, 5), (10, 5), (10, 5), (3, 14), (10, 8), (10, 8), (10, 8), (10, 8), (10, 5), (10, 5), (10, 5), (10, 5), (10, 5), (3, 14), (10, 8), (10, 8), (10, 8), (10, 8), (10, 5), (10, 5), (10, 5), (10, 5), (10, 5), (3, 14), (10, 8), (10, 8), (10, 8), (10, 8), (10, 5), (10, 5), (10, 5), (10, 5), (10, 5), (5, 21), (10, 50), (10, 50), (10, 52), (10, 416), (10, 104), (12, 2), (10, 160), (10, 18), (10, 5), (10, 5), (10, 5), (10, 52)]
def lyS (o : Nat) : Nat × Nat := lsL.getD o (99, 0)
def lrL : List (List (Option Nat)) := [[some 1, some 3, some 10, some 17, some 27, some 37, none, some 38, some 39, some 40, some 44], [some 2], [], [none, none, some 4, some 5, some 6, some 7, some 8, some 9], [], [], [], [], [], [], [none, none, some 11, some 12, some 13, some 14, some 15, some 16], [], [], [], [], [], [], [some 18, some 19, some 20, some 21, some 22, some 23, some 24, some 25, some 26], [], [], [], [], [], [], [], [], [], [some 28, some 29, some 30, some 31, some 32, some 33, some 34, some 35, some 36], [], [], [], [], [], [], [], [], [], [], [some 125, some 135], [], [some 41, some 42, some 43], [], [], [], [], [some 46, some 47, some 48, some 49, some 50, some 51, some 52, some 53, some 54], [], [], [], [], [], [], [], [], [], [some 56, some 57, some 58, some 59, some 60, some 61, some 62, some 63, some 64], [], [], [], [], [], [], [], [], [], [some 66, some 67, some 68, some 69, some 70, some 71, some 72, some 73, some 74], [], [], [], [], [], [], [], [], [], [some 76, some 77, some 78, some 79, some 80, some 81, some 82, some 83, some 84], [], [], [], [], [], [], [], [], [], [some 86, some 87, some 88, some 89, some 90, some 91, some 92, some 93, some 94], [], [], [], [], [], [], [], [], [], [some 96, some 97, some 98, some 99, some 100, some 101, some 102, some 103, some 104], [], [], [], [], [], [], [], [], [], [some 106, some 107, some 108, some 109, some 110, some 111, some 112, some 113, some 114], [], [], [], [], [], [], [], [], [], [some 116, some 117, some 118, some 119, some 120, some 121, some 122, some 123, some 124], [], [], [], [], [], [], [], [], [], [some 126, some 127, some 128, some 129, some 130, some 131, some 132, some 133, some 134], [], [], [], [], [], [], [], [], [], [some 136, some 137, some 138, some 139, some 140, some 141, some 142, some 143, some 144], [], [], [], [], [], [], [], [], [], [some 146, some 147, some 148, some 149, none, some 150, some 151, some 152, none, some 153, none, none, none, none, none, none, none, some 154, some 155, some 156, some 157], [], [], [], [], [], [], [], [], [], [], [], []]
def lyR (o k : Nat) : Option Nat := (lrL.getD o []).getD k none
abbrev YT : Type := Nat → Nat → Int32
def Lo (h : AH) : Prop := hN h = 158 ∧ (∀ q, q < 158 → hS h q = lyS q) ∧ ∀ q k, q < 158 → q ≠ 37 → hR h q k = lyR q k
def YO (o : Nat) : Prop := o ∈ [17, 27, 45, 55, 65, 75, 85, 95, 105, 115, 125, 135]
def TO (o : Nat) : Prop := o = 3 ∨ o = 10
theorem hI_sA (h : AH) (a : Nat) (g : Nat → Int32) (q : Nat) : hI (sA h a g) q = if q = a then g else hI h q := rfl
theorem hI_sL (h : AH) (a j : Nat) (v : Int64) : hI (sL h a j v) = hI h := rfl
theorem hI_sR (h : AH) (a j : Nat) (v : Option Nat) : hI (sR h a j v) = hI h := rfl
theorem hS_sA (h : AH) (a : Nat) (g : Nat → Int32) : hS (sA h a g) = hS h := rfl
theorem hR_sA (h : AH) (a : Nat) (g : Nat → Int32) : hR (sA h a g) = hR h := rfl
theorem hN_sA (h : AH) (a : Nat) (g : Nat → Int32) : hN (sA h a g) = hN h := rfl
theorem hL_sA (h : AH) (a : Nat) (g : Nat → Int32) : hL (sA h a g) = hL h := rfl
theorem Lo_sA {h : AH} {a : Nat} {g : Nat → Int32} : Lo (sA h a g) ↔ Lo h := Iff.rfl
theorem Lo_sL {h : AH} {a j : Nat} {v : Int64} : Lo (sL h a j v) ↔ Lo h := Iff.rfl
theorem Lo.sA {h : AH} (a : Nat) (g : Nat → Int32) (H : Lo h) : Lo (sA h a g) := H
/-- nothing changed but the ints of a .. b - 1 -/
def Fr (h h' : AH) (a b : Nat) : Prop := hN h' = hN h ∧ hS h' = hS h ∧ hR h' = hR h ∧ ∀ q, (q < a ∨ b ≤ q) → hI h' q = hI h q
theorem Fr.refl (h : AH) (a b : Nat) : Fr h h a b := ⟨rfl, rfl, rfl, fun _ _ => rfl⟩
theorem Fr.trans {h h1 h2 : AH} {a b : Nat} (x : Fr h h1 a b) (y : Fr h1 h2 a b) : Fr h h2 a b := ⟨y.1.trans x.1, y.2.1.trans x.2.1, y.2.2.1.trans x.2.2.1, fun q hq => (y.2.2.2 q hq).trans (x.2.2.2 q hq)⟩
theorem Fr.wide {h h1 : AH} {a b c d : Nat} (x : Fr h h1 a b) (h1' : c ≤ a) (h2' : b ≤ d) : Fr h h1 c d := ⟨x.1, x.2.1, x.2.2.1, fun q hq => x.2.2.2 q (by omega)⟩
theorem Fr.sA {h h1 : AH} {a b q : Nat} {g : Nat → Int32} (x : Fr h h1 a b) (h2 : a ≤ q) (h3 : q < b) : Fr h (sA h1 q g) a b := ⟨x.1, x.2.1, x.2.2.1, fun r hr => (if_neg (show ¬ r = q by omega)).trans (x.2.2.2 r hr)⟩
theorem Fr.sL {h h1 : AH} {a b q j : Nat} {v : Int64} (x : Fr h h1 a b) : Fr h (sL h1 q j v) a b := x
theorem Lo.fr {h h1 : AH} {a b : Nat} (H : Lo h) (x : Fr h h1 a b) : Lo h1 := ⟨x.1.trans H.1, fun q hq => by rw [x.2.1]; exact H.2.1 q hq, fun q k hq hn => by rw [x.2.2.1]; exact H.2.2 q k hq hn⟩
theorem sA_self (h : AH) (o : Nat) : sA h o (hI h o) = h := by
  obtain ⟨n, s, r, i, l⟩ := h
  show (n, s, r, va_up i o (i o), l) = (n, s, r, i, l)
  have e : va_up i o (i o) = i := by
    funext q
    unfold va_up
    split
    next e => rw [e]
    next => rfl
  rw [e]
theorem sA_sA (h : AH) (o : Nat) (f g : Nat → Int32) : sA (sA h o f) o g = sA h o g := by
  obtain ⟨n, s, r, i, l⟩ := h
  show (n, s, r, va_up (va_up i o f) o g, l) = (n, s, r, va_up i o g, l)
  have e : va_up (va_up i o f) o g = va_up i o g := by
    funext q
    unfold va_up
    split
    next => rfl
    next => rfl
  rw [e]
theorem sA_eq {h : AH} {o : Nat} {g : Nat → Int32} (e : g = hI h o) : sA h o g = h := by rw [e]; exact sA_self h o
theorem inB_nI {k n : Nat} (h : k < n) (hn : n < 2 ^ 31) : inB (nI k) n = true := by
  unfold inB
  rw [nI_clamp (by omega)]
  simp [h, nI_pos (show k < 2 ^ 31 by omega)]
section OPS
variable {h : AH}
theorem op_is {q t n : Nat} (H : Lo h) (hq : q < 158) (hs : lyS q = (t, n)) : q < hN h ∧ hS h q = (t, n) := ⟨by rw [H.1]; exact hq, by rw [H.2.1 q hq]; exact hs⟩
theorem op_ck {q ci : Nat} (H : Lo h) (hq : q < 158) (hs : lyS q = (ci, nfO ci)) : ckO h q ci = some () := if_pos (op_is H hq hs)
theorem op_gtI {q ci k : Nat} (H : Lo h) (hq : q < 158) (hs : lyS q = (ci, nfO ci)) : gtI h q ci k = some (hI h q k) := if_pos (op_is H hq hs)
theorem op_gtL {q ci k : Nat} (H : Lo h) (hq : q < 158) (hs : lyS q = (ci, nfO ci)) : gtL h q ci k = some (hL h q k) := if_pos (op_is H hq hs)
theorem op_gtR {q ci k r : Nat} (H : Lo h) (hq : q < 158) (hs : lyS q = (ci, nfO ci)) (h37 : q ≠ 37) (hr : lyR q k = some r) : gtR h q ci k = some r := (if_pos (op_is H hq hs)).trans ((H.2.2 q k hq h37).trans hr)
theorem op_ptI {q ci k : Nat} {v : Int32} (H : Lo h) (hq : q < 158) (hs : lyS q = (ci, nfO ci)) : ptI h q ci k v = some (sI h q k v) := if_pos (op_is H hq hs)
theorem op_ptL {q ci k : Nat} {v : Int64} (H : Lo h) (hq : q < 158) (hs : lyS q = (ci, nfO ci)) : ptL h q ci k v = some (sL h q k v) := if_pos (op_is H hq hs)
theorem op_ptZ {q ci k : Nat} {v : Int32} (H : Lo h) (hq : q < 158) (hs : lyS q = (ci, nfO ci)) (hv : v = 0 ∨ v = 1) : ptZ h q ci k v = some (sI h q k v) := if_pos ⟨op_is H hq hs, hv⟩
theorem op_ldA {q t n k : Nat} (H : Lo h) (hq : q < 158) (hs : lyS q = (t, n)) (hn : n < 2 ^ 31) (hk : k < n) : ldA h q t (nI k) = some (hI h q k) := by
  have z := op_is H hq hs
  unfold ldA
  rw [if_pos ⟨⟨z.1, by rw [z.2]⟩, by rw [z.2]; exact inB_nI hk hn⟩, nI_clamp (by omega)]
theorem op_stA {q t n k : Nat} {v : Int32} (H : Lo h) (hq : q < 158) (hs : lyS q = (t, n)) (hn : n < 2 ^ 31) (hk : k < n) : stA h q t (nI k) v = some (sI h q k v) := by
  have z := op_is H hq hs
  unfold stA
  rw [if_pos ⟨⟨z.1, by rw [z.2]⟩, by rw [z.2]; exact inB_nI hk hn⟩, nI_clamp (by omega)]
theorem op_lnA {q n : Nat} (H : Lo h) (hq : q < 158) (hs : lyS q = (10, n)) : lnA h q = some (nI n) := by
  have z := op_is H hq hs
  unfold lnA
  rw [if_pos ⟨z.1, by rw [z.2]⟩, z.2]
theorem op_cpA {q1 q2 n1 n2 n : Nat} (H : Lo h) (hq1 : q1 < 158) (hs1 : lyS q1 = (10, n1)) (hq2 : q2 < 158) (hs2 : lyS q2 = (10, n2)) (h1 : n ≤ n1) (h2 : n ≤ n2) (hn : n < 2 ^ 31) : cpA h q1 0 q2 0 (nI n) = some (sA h q2 (va_cpy (hI h q1) (hI h q2) 0 0 n)) := by
  have z1 := op_is H hq1 hs1
  have z2 := op_is H hq2 hs2
  unfold cpA
  have e0 : (0 : Int32).toNatClampNeg = 0 := by decide
  rw [if_pos ⟨⟨⟨z1.1, by rw [z1.2]⟩, ⟨z2.1, by rw [z2.2]⟩⟩, ⟨by decide, by decide, nI_pos hn⟩, by rw [e0, nI_clamp hn, z1.2]; show 0 + n ≤ n1; omega, by rw [e0, nI_clamp hn, z2.2]; show 0 + n ≤ n2; omega⟩, e0, nI_clamp hn]
theorem yo_lt {o : Nat} (ho : YO o) : o + 10 ≤ 158 ∧ o ≠ 37 ∧ 17 ≤ o ∧ o + 10 ≤ 145 := by
  have : ∀ o ∈ [17, 27, 45, 55, 65, 75, 85, 95, 105, 115, 125, 135], o + 10 ≤ 158 ∧ o ≠ 37 ∧ 17 ≤ o ∧ o + 10 ≤ 145 := by decide
  exact this o ho
theorem yo_all : ∀ o ∈ [17, 27, 45, 55, 65, 75, 85, 95, 105, 115, 125, 135], lyS o = (3, 14) ∧ (lyS (o + 1) = (10, 8) ∧ lyS (o + 2) = (10, 8) ∧ lyS (o + 3) = (10, 8) ∧ lyS (o + 4) = (10, 8)) ∧ (lyS (o + 5) = (10, 5) ∧ lyS (o + 6) = (10, 5) ∧ lyS (o + 7) = (10, 5) ∧ lyS (o + 8) = (10, 5) ∧ lyS (o + 9) = (10, 5)) ∧ (lyR o 0 = some (o + 1) ∧ lyR o 1 = some (o + 2) ∧ lyR o 2 = some (o + 3) ∧ lyR o 3 = some (o + 4) ∧ lyR o 4 = some (o + 5) ∧ lyR o 5 = some (o + 6) ∧ lyR o 6 = some (o + 7) ∧ lyR o 7 = some (o + 8) ∧ lyR o 8 = some (o + 9)) := by decide
theorem y_ck {o : Nat} (H : Lo h) (ho : YO o) : ckO h o 3 = some () := op_ck H (by have := yo_lt ho; omega) (yo_all o ho).1
theorem y_gI {o k : Nat} (H : Lo h) (ho : YO o) : gtI h o 3 k = some (hI h o k) := op_gtI H (by have := yo_lt ho; omega) (yo_all o ho).1
theorem y_pI {o k : Nat} {v : Int32} (H : Lo h) (ho : YO o) : ptI h o 3 k v = some (sI h o k v) := op_ptI H (by have := yo_lt ho; omega) (yo_all o ho).1
theorem y_pZ {o k : Nat} {v : Int32} (H : Lo h) (ho : YO o) (hv : v = 0 ∨ v = 1) : ptZ h o 3 k v = some (sI h o k v) := op_ptZ H (by have := yo_lt ho; omega) (yo_all o ho).1 hv
theorem y_R0 {o : Nat} (H : Lo h) (ho : YO o) : gtR h o 3 0 = some (o + 1) := op_gtR H (by have := yo_lt ho; omega) (yo_all o ho).1 (yo_lt ho).2.1 (yo_all o ho).2.2.2.1
theorem y_ld1 {o k : Nat} (H : Lo h) (ho : YO o) (hk : k < 8) : ldA h (o + 1) 10 (nI k) = some (hI h (o + 1) k) := op_ldA H (by have := yo_lt ho; omega) (yo_all o ho).2.1.1 (by decide) hk
theorem y_st1 {o k : Nat} {v : Int32} (H : Lo h) (ho : YO o) (hk : k < 8) : stA h (o + 1) 10 (nI k) v = some (sI h (o + 1) k v) := op_stA H (by have := yo_lt ho; omega) (yo_all o ho).2.1.1 (by decide) hk
theorem y_ls1 {o : Nat} (ho : YO o) : o + 1 < 158 ∧ lyS (o + 1) = (10, 8) := ⟨by have := yo_lt ho; omega, (yo_all o ho).2.1.1⟩
theorem y_R1 {o : Nat} (H : Lo h) (ho : YO o) : gtR h o 3 1 = some (o + 2) := op_gtR H (by have := yo_lt ho; omega) (yo_all o ho).1 (yo_lt ho).2.1 (yo_all o ho).2.2.2.2.1
theorem y_ld2 {o k : Nat} (H : Lo h) (ho : YO o) (hk : k < 8) : ldA h (o + 2) 10 (nI k) = some (hI h (o + 2) k) := op_ldA H (by have := yo_lt ho; omega) (yo_all o ho).2.1.2.1 (by decide) hk
theorem y_st2 {o k : Nat} {v : Int32} (H : Lo h) (ho : YO o) (hk : k < 8) : stA h (o + 2) 10 (nI k) v = some (sI h (o + 2) k v) := op_stA H (by have := yo_lt ho; omega) (yo_all o ho).2.1.2.1 (by decide) hk
theorem y_ls2 {o : Nat} (ho : YO o) : o + 2 < 158 ∧ lyS (o + 2) = (10, 8) := ⟨by have := yo_lt ho; omega, (yo_all o ho).2.1.2.1⟩
theorem y_R2 {o : Nat} (H : Lo h) (ho : YO o) : gtR h o 3 2 = some (o + 3) := op_gtR H (by have := yo_lt ho; omega) (yo_all o ho).1 (yo_lt ho).2.1 (yo_all o ho).2.2.2.2.2.1
theorem y_ld3 {o k : Nat} (H : Lo h) (ho : YO o) (hk : k < 8) : ldA h (o + 3) 10 (nI k) = some (hI h (o + 3) k) := op_ldA H (by have := yo_lt ho; omega) (yo_all o ho).2.1.2.2.1 (by decide) hk
theorem y_st3 {o k : Nat} {v : Int32} (H : Lo h) (ho : YO o) (hk : k < 8) : stA h (o + 3) 10 (nI k) v = some (sI h (o + 3) k v) := op_stA H (by have := yo_lt ho; omega) (yo_all o ho).2.1.2.2.1 (by decide) hk
theorem y_ls3 {o : Nat} (ho : YO o) : o + 3 < 158 ∧ lyS (o + 3) = (10, 8) := ⟨by have := yo_lt ho; omega, (yo_all o ho).2.1.2.2.1⟩
theorem y_R3 {o : Nat} (H : Lo h) (ho : YO o) : gtR h o 3 3 = some (o + 4) := op_gtR H (by have := yo_lt ho; omega) (yo_all o ho).1 (yo_lt ho).2.1 (yo_all o ho).2.2.2.2.2.2.1
theorem y_ld4 {o k : Nat} (H : Lo h) (ho : YO o) (hk : k < 8) : ldA h (o + 4) 10 (nI k) = some (hI h (o + 4) k) := op_ldA H (by have := yo_lt ho; omega) (yo_all o ho).2.1.2.2.2 (by decide) hk
theorem y_st4 {o k : Nat} {v : Int32} (H : Lo h) (ho : YO o) (hk : k < 8) : stA h (o + 4) 10 (nI k) v = some (sI h (o + 4) k v) := op_stA H (by have := yo_lt ho; omega) (yo_all o ho).2.1.2.2.2 (by decide) hk
theorem y_ls4 {o : Nat} (ho : YO o) : o + 4 < 158 ∧ lyS (o + 4) = (10, 8) := ⟨by have := yo_lt ho; omega, (yo_all o ho).2.1.2.2.2⟩
theorem y_R4 {o : Nat} (H : Lo h) (ho : YO o) : gtR h o 3 4 = some (o + 5) := op_gtR H (by have := yo_lt ho; omega) (yo_all o ho).1 (yo_lt ho).2.1 (yo_all o ho).2.2.2.2.2.2.2.1
theorem y_ld5 {o k : Nat} (H : Lo h) (ho : YO o) (hk : k < 5) : ldA h (o + 5) 10 (nI k) = some (hI h (o + 5) k) := op_ldA H (by have := yo_lt ho; omega) (yo_all o ho).2.2.1.1 (by decide) hk
theorem y_st5 {o k : Nat} {v : Int32} (H : Lo h) (ho : YO o) (hk : k < 5) : stA h (o + 5) 10 (nI k) v = some (sI h (o + 5) k v) := op_stA H (by have := yo_lt ho; omega) (yo_all o ho).2.2.1.1 (by decide) hk
theorem y_ls5 {o : Nat} (ho : YO o) : o + 5 < 158 ∧ lyS (o + 5) = (10, 5) := ⟨by have := yo_lt ho; omega, (yo_all o ho).2.2.1.1⟩
theorem y_R5 {o : Nat} (H : Lo h) (ho : YO o) : gtR h o 3 5 = some (o + 6) := op_gtR H (by have := yo_lt ho; omega) (yo_all o ho).1 (yo_lt ho).2.1 (yo_all o ho).2.2.2.2.2.2.2.2.1
theorem y_ld6 {o k : Nat} (H : Lo h) (ho : YO o) (hk : k < 5) : ldA h (o + 6) 10 (nI k) = some (hI h (o + 6) k) := op_ldA H (by have := yo_lt ho; omega) (yo_all o ho).2.2.1.2.1 (by decide) hk
theorem y_st6 {o k : Nat} {v : Int32} (H : Lo h) (ho : YO o) (hk : k < 5) : stA h (o + 6) 10 (nI k) v = some (sI h (o + 6) k v) := op_stA H (by have := yo_lt ho; omega) (yo_all o ho).2.2.1.2.1 (by decide) hk
theorem y_ls6 {o : Nat} (ho : YO o) : o + 6 < 158 ∧ lyS (o + 6) = (10, 5) := ⟨by have := yo_lt ho; omega, (yo_all o ho).2.2.1.2.1⟩
theorem y_R6 {o : Nat} (H : Lo h) (ho : YO o) : gtR h o 3 6 = some (o + 7) := op_gtR H (by have := yo_lt ho; omega) (yo_all o ho).1 (yo_lt ho).2.1 (yo_all o ho).2.2.2.2.2.2.2.2.2.1
theorem y_ld7 {o k : Nat} (H : Lo h) (ho : YO o) (hk : k < 5) : ldA h (o + 7) 10 (nI k) = some (hI h (o + 7) k) := op_ldA H (by have := yo_lt ho; omega) (yo_all o ho).2.2.1.2.2.1 (by decide) hk
theorem y_st7 {o k : Nat} {v : Int32} (H : Lo h) (ho : YO o) (hk : k < 5) : stA h (o + 7) 10 (nI k) v = some (sI h (o + 7) k v) := op_stA H (by have := yo_lt ho; omega) (yo_all o ho).2.2.1.2.2.1 (by decide) hk
theorem y_ls7 {o : Nat} (ho : YO o) : o + 7 < 158 ∧ lyS (o + 7) = (10, 5) := ⟨by have := yo_lt ho; omega, (yo_all o ho).2.2.1.2.2.1⟩
theorem y_R7 {o : Nat} (H : Lo h) (ho : YO o) : gtR h o 3 7 = some (o + 8) := op_gtR H (by have := yo_lt ho; omega) (yo_all o ho).1 (yo_lt ho).2.1 (yo_all o ho).2.2.2.2.2.2.2.2.2.2.1
theorem y_ld8 {o k : Nat} (H : Lo h) (ho : YO o) (hk : k < 5) : ldA h (o + 8) 10 (nI k) = some (hI h (o + 8) k) := op_ldA H (by have := yo_lt ho; omega) (yo_all o ho).2.2.1.2.2.2.1 (by decide) hk
theorem y_st8 {o k : Nat} {v : Int32} (H : Lo h) (ho : YO o) (hk : k < 5) : stA h (o + 8) 10 (nI k) v = some (sI h (o + 8) k v) := op_stA H (by have := yo_lt ho; omega) (yo_all o ho).2.2.1.2.2.2.1 (by decide) hk
theorem y_ls8 {o : Nat} (ho : YO o) : o + 8 < 158 ∧ lyS (o + 8) = (10, 5) := ⟨by have := yo_lt ho; omega, (yo_all o ho).2.2.1.2.2.2.1⟩
theorem y_R8 {o : Nat} (H : Lo h) (ho : YO o) : gtR h o 3 8 = some (o + 9) := op_gtR H (by have := yo_lt ho; omega) (yo_all o ho).1 (yo_lt ho).2.1 (yo_all o ho).2.2.2.2.2.2.2.2.2.2.2
theorem y_ld9 {o k : Nat} (H : Lo h) (ho : YO o) (hk : k < 5) : ldA h (o + 9) 10 (nI k) = some (hI h (o + 9) k) := op_ldA H (by have := yo_lt ho; omega) (yo_all o ho).2.2.1.2.2.2.2 (by decide) hk
theorem y_st9 {o k : Nat} {v : Int32} (H : Lo h) (ho : YO o) (hk : k < 5) : stA h (o + 9) 10 (nI k) v = some (sI h (o + 9) k v) := op_stA H (by have := yo_lt ho; omega) (yo_all o ho).2.2.1.2.2.2.2 (by decide) hk
theorem y_ls9 {o : Nat} (ho : YO o) : o + 9 < 158 ∧ lyS (o + 9) = (10, 5) := ⟨by have := yo_lt ho; omega, (yo_all o ho).2.2.1.2.2.2.2⟩
theorem to_lt {o : Nat} (ho : TO o) : o + 7 ≤ 17 ∧ 3 ≤ o := by unfold TO at ho; omega
theorem to_all : ∀ o ∈ [3, 10], lyS o = (2, 8) ∧ (lyS (o + 1) = (10, 8) ∧ lyR o 2 = some (o + 1)) ∧ (lyS (o + 2) = (10, 8) ∧ lyR o 3 = some (o + 2)) ∧ (lyS (o + 3) = (10, 8) ∧ lyR o 4 = some (o + 3)) ∧ (lyS (o + 4) = (10, 5) ∧ lyR o 5 = some (o + 4)) ∧ (lyS (o + 5) = (10, 5) ∧ lyR o 6 = some (o + 5)) ∧ (lyS (o + 6) = (10, 14) ∧ lyR o 7 = some (o + 6)) := by decide
theorem TO.mem {o : Nat} (ho : TO o) : o ∈ [3, 10] := by unfold TO at ho; simpa using ho
theorem t_ck {o : Nat} (H : Lo h) (ho : TO o) : ckO h o 2 = some () := op_ck H (by have := to_lt ho; omega) (to_all o ho.mem).1
theorem t_gI {o k : Nat} (H : Lo h) (ho : TO o) : gtI h o 2 k = some (hI h o k) := op_gtI H (by have := to_lt ho; omega) (to_all o ho.mem).1
theorem t_pI {o k : Nat} {v : Int32} (H : Lo h) (ho : TO o) : ptI h o 2 k v = some (sI h o k v) := op_ptI H (by have := to_lt ho; omega) (to_all o ho.mem).1
theorem t_R2 {o : Nat} (H : Lo h) (ho : TO o) : gtR h o 2 2 = some (o + 1) := op_gtR H (by have := to_lt ho; omega) (to_all o ho.mem).1 (by have := to_lt ho; omega) (to_all o ho.mem).2.1.2
theorem t_ld1 {o k : Nat} (H : Lo h) (ho : TO o) (hk : k < 8) : ldA h (o + 1) 10 (nI k) = some (hI h (o + 1) k) := op_ldA H (by have := to_lt ho; omega) (to_all o ho.mem).2.1.1 (by decide) hk
theorem t_st1 {o k : Nat} {v : Int32} (H : Lo h) (ho : TO o) (hk : k < 8) : stA h (o + 1) 10 (nI k) v = some (sI h (o + 1) k v) := op_stA H (by have := to_lt ho; omega) (to_all o ho.mem).2.1.1 (by decide) hk
theorem t_ls1 {o : Nat} (ho : TO o) : o + 1 < 158 ∧ lyS (o + 1) = (10, 8) := ⟨by have := to_lt ho; omega, (to_all o ho.mem).2.1.1⟩
theorem t_R3 {o : Nat} (H : Lo h) (ho : TO o) : gtR h o 2 3 = some (o + 2) := op_gtR H (by have := to_lt ho; omega) (to_all o ho.mem).1 (by have := to_lt ho; omega) (to_all o ho.mem).2.2.1.2
theorem t_ld2 {o k : Nat} (H : Lo h) (ho : TO o) (hk : k < 8) : ldA h (o + 2) 10 (nI k) = some (hI h (o + 2) k) := op_ldA H (by have := to_lt ho; omega) (to_all o ho.mem).2.2.1.1 (by decide) hk
theorem t_st2 {o k : Nat} {v : Int32} (H : Lo h) (ho : TO o) (hk : k < 8) : stA h (o + 2) 10 (nI k) v = some (sI h (o + 2) k v) := op_stA H (by have := to_lt ho; omega) (to_all o ho.mem).2.2.1.1 (by decide) hk
theorem t_ls2 {o : Nat} (ho : TO o) : o + 2 < 158 ∧ lyS (o + 2) = (10, 8) := ⟨by have := to_lt ho; omega, (to_all o ho.mem).2.2.1.1⟩
theorem t_R4 {o : Nat} (H : Lo h) (ho : TO o) : gtR h o 2 4 = some (o + 3) := op_gtR H (by have := to_lt ho; omega) (to_all o ho.mem).1 (by have := to_lt ho; omega) (to_all o ho.mem).2.2.2.1.2
theorem t_ld3 {o k : Nat} (H : Lo h) (ho : TO o) (hk : k < 8) : ldA h (o + 3) 10 (nI k) = some (hI h (o + 3) k) := op_ldA H (by have := to_lt ho; omega) (to_all o ho.mem).2.2.2.1.1 (by decide) hk
theorem t_st3 {o k : Nat} {v : Int32} (H : Lo h) (ho : TO o) (hk : k < 8) : stA h (o + 3) 10 (nI k) v = some (sI h (o + 3) k v) := op_stA H (by have := to_lt ho; omega) (to_all o ho.mem).2.2.2.1.1 (by decide) hk
theorem t_ls3 {o : Nat} (ho : TO o) : o + 3 < 158 ∧ lyS (o + 3) = (10, 8) := ⟨by have := to_lt ho; omega, (to_all o ho.mem).2.2.2.1.1⟩
theorem t_R5 {o : Nat} (H : Lo h) (ho : TO o) : gtR h o 2 5 = some (o + 4) := op_gtR H (by have := to_lt ho; omega) (to_all o ho.mem).1 (by have := to_lt ho; omega) (to_all o ho.mem).2.2.2.2.1.2
theorem t_ld4 {o k : Nat} (H : Lo h) (ho : TO o) (hk : k < 5) : ldA h (o + 4) 10 (nI k) = some (hI h (o + 4) k) := op_ldA H (by have := to_lt ho; omega) (to_all o ho.mem).2.2.2.2.1.1 (by decide) hk
theorem t_st4 {o k : Nat} {v : Int32} (H : Lo h) (ho : TO o) (hk : k < 5) : stA h (o + 4) 10 (nI k) v = some (sI h (o + 4) k v) := op_stA H (by have := to_lt ho; omega) (to_all o ho.mem).2.2.2.2.1.1 (by decide) hk
theorem t_ls4 {o : Nat} (ho : TO o) : o + 4 < 158 ∧ lyS (o + 4) = (10, 5) := ⟨by have := to_lt ho; omega, (to_all o ho.mem).2.2.2.2.1.1⟩
theorem t_R6 {o : Nat} (H : Lo h) (ho : TO o) : gtR h o 2 6 = some (o + 5) := op_gtR H (by have := to_lt ho; omega) (to_all o ho.mem).1 (by have := to_lt ho; omega) (to_all o ho.mem).2.2.2.2.2.1.2
theorem t_ld5 {o k : Nat} (H : Lo h) (ho : TO o) (hk : k < 5) : ldA h (o + 5) 10 (nI k) = some (hI h (o + 5) k) := op_ldA H (by have := to_lt ho; omega) (to_all o ho.mem).2.2.2.2.2.1.1 (by decide) hk
theorem t_st5 {o k : Nat} {v : Int32} (H : Lo h) (ho : TO o) (hk : k < 5) : stA h (o + 5) 10 (nI k) v = some (sI h (o + 5) k v) := op_stA H (by have := to_lt ho; omega) (to_all o ho.mem).2.2.2.2.2.1.1 (by decide) hk
theorem t_ls5 {o : Nat} (ho : TO o) : o + 5 < 158 ∧ lyS (o + 5) = (10, 5) := ⟨by have := to_lt ho; omega, (to_all o ho.mem).2.2.2.2.2.1.1⟩
theorem t_R7 {o : Nat} (H : Lo h) (ho : TO o) : gtR h o 2 7 = some (o + 6) := op_gtR H (by have := to_lt ho; omega) (to_all o ho.mem).1 (by have := to_lt ho; omega) (to_all o ho.mem).2.2.2.2.2.2.2
theorem t_ld6 {o k : Nat} (H : Lo h) (ho : TO o) (hk : k < 14) : ldA h (o + 6) 10 (nI k) = some (hI h (o + 6) k) := op_ldA H (by have := to_lt ho; omega) (to_all o ho.mem).2.2.2.2.2.2.1 (by decide) hk
theorem t_st6 {o k : Nat} {v : Int32} (H : Lo h) (ho : TO o) (hk : k < 14) : stA h (o + 6) 10 (nI k) v = some (sI h (o + 6) k v) := op_stA H (by have := to_lt ho; omega) (to_all o ho.mem).2.2.2.2.2.2.1 (by decide) hk
theorem t_ls6 {o : Nat} (ho : TO o) : o + 6 < 158 ∧ lyS (o + 6) = (10, 14) := ⟨by have := to_lt ho; omega, (to_all o ho.mem).2.2.2.2.2.2.1⟩
theorem o0_ck (H : Lo h) : ckO h 0 4 = some () := op_ck H (by decide) (by decide)
theorem o0_gI {k : Nat} (H : Lo h) : gtI h 0 4 k = some (hI h 0 k) := op_gtI H (by decide) (by decide)
theorem o0_pI {k : Nat} {v : Int32} (H : Lo h) : ptI h 0 4 k v = some (sI h 0 k v) := op_ptI H (by decide) (by decide)
theorem o0_R0 (H : Lo h) : gtR h 0 4 0 = some 1 := op_gtR H (by decide) (by decide) (by decide) (by decide)
theorem o0_R1 (H : Lo h) : gtR h 0 4 1 = some 3 := op_gtR H (by decide) (by decide) (by decide) (by decide)
theorem o0_R2 (H : Lo h) : gtR h 0 4 2 = some 10 := op_gtR H (by decide) (by decide) (by decide) (by decide)
theorem o0_R3 (H : Lo h) : gtR h 0 4 3 = some 17 := op_gtR H (by decide) (by decide) (by decide) (by decide)
theorem o0_R4 (H : Lo h) : gtR h 0 4 4 = some 27 := op_gtR H (by decide) (by decide) (by decide) (by decide)
theorem o0_R5 (H : Lo h) : gtR h 0 4 5 = some 37 := op_gtR H (by decide) (by decide) (by decide) (by decide)
theorem o0_R7 (H : Lo h) : gtR h 0 4 7 = some 38 := op_gtR H (by decide) (by decide) (by decide) (by decide)
theorem o0_R8 (H : Lo h) : gtR h 0 4 8 = some 39 := op_gtR H (by decide) (by decide) (by decide) (by decide)
theorem o0_R9 (H : Lo h) : gtR h 0 4 9 = some 40 := op_gtR H (by decide) (by decide) (by decide) (by decide)
theorem o0_R10 (H : Lo h) : gtR h 0 4 10 = some 44 := op_gtR H (by decide) (by decide) (by decide) (by decide)
theorem o1_ck (H : Lo h) : ckO h 1 1 = some () := op_ck H (by decide) (by decide)
theorem o1_gI {k : Nat} (H : Lo h) : gtI h 1 1 k = some (hI h 1 k) := op_gtI H (by decide) (by decide)
theorem o1_pI {k : Nat} {v : Int32} (H : Lo h) : ptI h 1 1 k v = some (sI h 1 k v) := op_ptI H (by decide) (by decide)
theorem o1_R0 (H : Lo h) : gtR h 1 1 0 = some 2 := op_gtR H (by decide) (by decide) (by decide) (by decide)
theorem o40_ck (H : Lo h) : ckO h 40 0 = some () := op_ck H (by decide) (by decide)
theorem o40_gI {k : Nat} (H : Lo h) : gtI h 40 0 k = some (hI h 40 k) := op_gtI H (by decide) (by decide)
theorem o40_pI {k : Nat} {v : Int32} (H : Lo h) : ptI h 40 0 k v = some (sI h 40 k v) := op_ptI H (by decide) (by decide)
theorem o40_R0 (H : Lo h) : gtR h 40 0 0 = some 41 := op_gtR H (by decide) (by decide) (by decide) (by decide)
theorem o40_R1 (H : Lo h) : gtR h 40 0 1 = some 42 := op_gtR H (by decide) (by decide) (by decide) (by decide)
theorem o40_R2 (H : Lo h) : gtR h 40 0 2 = some 43 := op_gtR H (by decide) (by decide) (by decide) (by decide)
theorem o145_ck (H : Lo h) : ckO h 145 5 = some () := op_ck H (by decide) (by decide)
theorem o145_gI {k : Nat} (H : Lo h) : gtI h 145 5 k = some (hI h 145 k) := op_gtI H (by decide) (by decide)
theorem o145_pI {k : Nat} {v : Int32} (H : Lo h) : ptI h 145 5 k v = some (sI h 145 k v) := op_ptI H (by decide) (by decide)
theorem o145_R0 (H : Lo h) : gtR h 145 5 0 = some 146 := op_gtR H (by decide) (by decide) (by decide) (by decide)
theorem o145_R1 (H : Lo h) : gtR h 145 5 1 = some 147 := op_gtR H (by decide) (by decide) (by decide) (by decide)
theorem o145_R2 (H : Lo h) : gtR h 145 5 2 = some 148 := op_gtR H (by decide) (by decide) (by decide) (by decide)
theorem o145_R3 (H : Lo h) : gtR h 145 5 3 = some 149 := op_gtR H (by decide) (by decide) (by decide) (by decide)
theorem o145_R5 (H : Lo h) : gtR h 145 5 5 = some 150 := op_gtR H (by decide) (by decide) (by decide) (by decide)
theorem o145_R6 (H : Lo h) : gtR h 145 5 6 = some 151 := op_gtR H (by decide) (by decide) (by decide) (by decide)
theorem o145_R7 (H : Lo h) : gtR h 145 5 7 = some 152 := op_gtR H (by decide) (by decide) (by decide) (by decide)
theorem o145_R9 (H : Lo h) : gtR h 145 5 9 = some 153 := op_gtR H (by decide) (by decide) (by decide) (by decide)
theorem o145_R17 (H : Lo h) : gtR h 145 5 17 = some 154 := op_gtR H (by decide) (by decide) (by decide) (by decide)
theorem o145_R18 (H : Lo h) : gtR h 145 5 18 = some 155 := op_gtR H (by decide) (by decide) (by decide) (by decide)
theorem o145_R19 (H : Lo h) : gtR h 145 5 19 = some 156 := op_gtR H (by decide) (by decide) (by decide) (by decide)
theorem o145_R20 (H : Lo h) : gtR h 145 5 20 = some 157 := op_gtR H (by decide) (by decide) (by decide) (by decide)
theorem o145_gL {k : Nat} (H : Lo h) : gtL h 145 5 k = some (hL h 145 k) := op_gtL H (by decide) (by decide)
theorem o145_pL {k : Nat} {v : Int64} (H : Lo h) : ptL h 145 5 k v = some (sL h 145 k v) := op_ptL H (by decide) (by decide)
theorem o2_ld {k : Nat} (H : Lo h) (hk : k < 160) : ldA h 2 11 (nI k) = some (hI h 2 k) := op_ldA H (by decide) (by decide) (by decide) hk
theorem o2_st {k : Nat} {v : Int32} (H : Lo h) (hk : k < 160) : stA h 2 11 (nI k) v = some (sI h 2 k v) := op_stA H (by decide) (by decide) (by decide) hk
theorem o39_ld {k : Nat} (H : Lo h) (hk : k < 2) : ldA h 39 12 (nI k) = some (hI h 39 k) := op_ldA H (by decide) (by decide) (by decide) hk
theorem o39_st {k : Nat} {v : Int32} (H : Lo h) (hk : k < 2) : stA h 39 12 (nI k) v = some (sI h 39 k v) := op_stA H (by decide) (by decide) (by decide) hk
theorem o41_ld {k : Nat} (H : Lo h) (hk : k < 6) : ldA h 41 10 (nI k) = some (hI h 41 k) := op_ldA H (by decide) (by decide) (by decide) hk
theorem o41_st {k : Nat} {v : Int32} (H : Lo h) (hk : k < 6) : stA h 41 10 (nI k) v = some (sI h 41 k v) := op_stA H (by decide) (by decide) (by decide) hk
theorem o42_ld {k : Nat} (H : Lo h) (hk : k < 6) : ldA h 42 10 (nI k) = some (hI h 42 k) := op_ldA H (by decide) (by decide) (by decide) hk
theorem o42_st {k : Nat} {v : Int32} (H : Lo h) (hk : k < 6) : stA h 42 10 (nI k) v = some (sI h 42 k v) := op_stA H (by decide) (by decide) (by decide) hk
theorem o43_ld {k : Nat} (H : Lo h) (hk : k < 6) : ldA h 43 10 (nI k) = some (hI h 43 k) := op_ldA H (by decide) (by decide) (by decide) hk
theorem o43_st {k : Nat} {v : Int32} (H : Lo h) (hk : k < 6) : stA h 43 10 (nI k) v = some (sI h 43 k v) := op_stA H (by decide) (by decide) (by decide) hk
theorem o44_ld {k : Nat} (H : Lo h) (hk : k < 64) : ldA h 44 10 (nI k) = some (hI h 44 k) := op_ldA H (by decide) (by decide) (by decide) hk
theorem o44_st {k : Nat} {v : Int32} (H : Lo h) (hk : k < 64) : stA h 44 10 (nI k) v = some (sI h 44 k v) := op_stA H (by decide) (by decide) (by decide) hk
theorem o146_ld {k : Nat} (H : Lo h) (hk : k < 50) : ldA h 146 10 (nI k) = some (hI h 146 k) := op_ldA H (by decide) (by decide) (by decide) hk
theorem o146_st {k : Nat} {v : Int32} (H : Lo h) (hk : k < 50) : stA h 146 10 (nI k) v = some (sI h 146 k v) := op_stA H (by decide) (by decide) (by decide) hk
theorem o147_ld {k : Nat} (H : Lo h) (hk : k < 50) : ldA h 147 10 (nI k) = some (hI h 147 k) := op_ldA H (by decide) (by decide) (by decide) hk
theorem o147_st {k : Nat} {v : Int32} (H : Lo h) (hk : k < 50) : stA h 147 10 (nI k) v = some (sI h 147 k v) := op_stA H (by decide) (by decide) (by decide) hk
theorem o148_ld {k : Nat} (H : Lo h) (hk : k < 52) : ldA h 148 10 (nI k) = some (hI h 148 k) := op_ldA H (by decide) (by decide) (by decide) hk
theorem o148_st {k : Nat} {v : Int32} (H : Lo h) (hk : k < 52) : stA h 148 10 (nI k) v = some (sI h 148 k v) := op_stA H (by decide) (by decide) (by decide) hk
theorem o149_ld {k : Nat} (H : Lo h) (hk : k < 416) : ldA h 149 10 (nI k) = some (hI h 149 k) := op_ldA H (by decide) (by decide) (by decide) hk
theorem o149_st {k : Nat} {v : Int32} (H : Lo h) (hk : k < 416) : stA h 149 10 (nI k) v = some (sI h 149 k v) := op_stA H (by decide) (by decide) (by decide) hk
theorem o150_ld {k : Nat} (H : Lo h) (hk : k < 104) : ldA h 150 10 (nI k) = some (hI h 150 k) := op_ldA H (by decide) (by decide) (by decide) hk
theorem o150_st {k : Nat} {v : Int32} (H : Lo h) (hk : k < 104) : stA h 150 10 (nI k) v = some (sI h 150 k v) := op_stA H (by decide) (by decide) (by decide) hk
theorem o151_ld {k : Nat} (H : Lo h) (hk : k < 2) : ldA h 151 12 (nI k) = some (hI h 151 k) := op_ldA H (by decide) (by decide) (by decide) hk
theorem o151_st {k : Nat} {v : Int32} (H : Lo h) (hk : k < 2) : stA h 151 12 (nI k) v = some (sI h 151 k v) := op_stA H (by decide) (by decide) (by decide) hk
theorem o152_ld {k : Nat} (H : Lo h) (hk : k < 160) : ldA h 152 10 (nI k) = some (hI h 152 k) := op_ldA H (by decide) (by decide) (by decide) hk
theorem o152_st {k : Nat} {v : Int32} (H : Lo h) (hk : k < 160) : stA h 152 10 (nI k) v = some (sI h 152 k v) := op_stA H (by decide) (by decide) (by decide) hk
theorem o153_ld {k : Nat} (H : Lo h) (hk : k < 18) : ldA h 153 10 (nI k) = some (hI h 153 k) := op_ldA H (by decide) (by decide) (by decide) hk
theorem o153_st {k : Nat} {v : Int32} (H : Lo h) (hk : k < 18) : stA h 153 10 (nI k) v = some (sI h 153 k v) := op_stA H (by decide) (by decide) (by decide) hk
theorem o154_ld {k : Nat} (H : Lo h) (hk : k < 5) : ldA h 154 10 (nI k) = some (hI h 154 k) := op_ldA H (by decide) (by decide) (by decide) hk
theorem o154_st {k : Nat} {v : Int32} (H : Lo h) (hk : k < 5) : stA h 154 10 (nI k) v = some (sI h 154 k v) := op_stA H (by decide) (by decide) (by decide) hk
theorem o155_ld {k : Nat} (H : Lo h) (hk : k < 5) : ldA h 155 10 (nI k) = some (hI h 155 k) := op_ldA H (by decide) (by decide) (by decide) hk
theorem o155_st {k : Nat} {v : Int32} (H : Lo h) (hk : k < 5) : stA h 155 10 (nI k) v = some (sI h 155 k v) := op_stA H (by decide) (by decide) (by decide) hk
theorem o156_ld {k : Nat} (H : Lo h) (hk : k < 5) : ldA h 156 10 (nI k) = some (hI h 156 k) := op_ldA H (by decide) (by decide) (by decide) hk
theorem o156_st {k : Nat} {v : Int32} (H : Lo h) (hk : k < 5) : stA h 156 10 (nI k) v = some (sI h 156 k v) := op_stA H (by decide) (by decide) (by decide) hk
theorem o157_ld {k : Nat} (H : Lo h) (hk : k < 52) : ldA h 157 10 (nI k) = some (hI h 157 k) := op_ldA H (by decide) (by decide) (by decide) hk
theorem o157_st {k : Nat} {v : Int32} (H : Lo h) (hk : k < 52) : stA h 157 10 (nI k) v = some (sI h 157 k v) := op_stA H (by decide) (by decide) (by decide) hk
theorem yo_17 : YO 17 := by unfold YO; decide
theorem yo_27 : YO 27 := by unfold YO; decide
theorem yo_past {i : Nat} (h : i < 8) : YO (45 + 10 * i) := by
  have : ∀ i, i < 8 → 45 + 10 * i ∈ [17, 27, 45, 55, 65, 75, 85, 95, 105, 115, 125, 135] := by decide
  exact this i h
theorem yo_kept {i : Nat} (h : i < 2) : YO (125 + 10 * i) := by
  have : ∀ i, i < 2 → 125 + 10 * i ∈ [17, 27, 45, 55, 65, 75, 85, 95, 105, 115, 125, 135] := by decide
  exact this i h
theorem to_3 : TO 3 := Or.inl rfl
theorem to_10 : TO 10 := Or.inr rfl
end OPS
