/-! what a yard is, as mathematics: told τ = (places, hens, rows: 1 meaning, 2 warm, 3 light, 4 kind, 5 habit, 6 news); a yard y by rows: 0 (9 day, 10 thunder, 11 eaten, 12 heeded, 13 fortune), 1 meaning, 2 warm, 3 egg, 4 right or not, 5 kind, 6 habit, 7 last, 8 right, 9 wrong -/
def rmd (x y : Int32) : Int32 := x - x / y * y
def up2 (y : YT) (i j : Nat) (v : Int32) : YT := fun a b => if a = i ∧ b = j then v else y a b
def upR (y : YT) (i : Nat) (g : Nat → Int32) : YT := fun a => if a = i then g else y a
abbrev TT : Type := Nat × Nat × YT
def tP (τ : TT) : Nat := τ.1
def tH (τ : TT) : Nat := τ.2.1
def tY (τ : TT) : YT := τ.2.2
def lkP (τ : TT) (y : YT) (h p : Nat) : Int32 :=
  if y 5 h = 0 then (if y 7 h = nI p then 2 * y 2 p + tY τ 3 p - y 6 h else 2 * y 2 p + tY τ 3 p)
  else if y 5 h = 1 then (if y 7 h = nI p then 2 * y 2 p + tY τ 3 p - y 6 h + 9 else 2 * y 2 p + tY τ 3 p)
  else if y 5 h = 2 then rmd (tY τ 3 p + y 0 9 * y 6 h) 10
  else if nI p = rmd (y 6 h) (nI (tP τ)) then 1 else 0
/-- the place that is liked best among the first n, and how -/
def bsP (τ : TT) (y : YT) (h : Nat) : Nat → Int32 × Int32
  | 0 => (-1, 0)
  | n + 1 => if ¬ y 3 n = -1 then bsP τ y h n else if (bsP τ y h n).1 = -1 then (nI n, lkP τ y h n) else if lkP τ y h n ≤ (bsP τ y h n).2 then bsP τ y h n else (nI n, lkP τ y h n)
def plP (τ : TT) (y : YT) (h : Nat) : Int32 := if y 0 10 = 0 ∧ (¬ y 5 h = 1 ∨ rmd (y 0 9) 2 = 0) then (bsP τ y h (tP τ)).1 else -1
def rgP (τ : TT) (y : YT) (p : Nat) : Prop := tY τ 6 ((y 0 9).toNatClampNeg % 14) = y 1 p
theorem rgP_dec (τ : TT) (y : YT) (p : Nat) : (rgP τ y p) ∨ ¬ (rgP τ y p) := Classical.em _
def rgB (τ : TT) (y : YT) (p : Nat) : Bool := decide (tY τ 6 ((y 0 9).toNatClampNeg % 14) = y 1 p)
def egP (τ : TT) (y : YT) (h p : Nat) : YT :=
  up2 (up2 (up2 (up2 (up2 y 3 p (nI h)) 4 p (if rgB τ y p then 1 else 0)) 7 h (nI p)) 8 h (y 8 h + (if rgB τ y p then 1 else 0))) 9 h (y 9 h + (if rgB τ y p then 0 else 1))
def hnP (τ : TT) (y : YT) (h : Nat) : YT := if plP τ y h = -1 then y else egP τ y h (plP τ y h).toNatClampNeg
def dyP (τ : TT) (y : YT) : Nat → YT
  | 0 => upR (upR y 3 (fun _ => -1)) 4 (fun _ => 0)
  | n + 1 => hnP τ (dyP τ y n) n
def dayP (τ : TT) (y : YT) : YT := up2 (up2 (dyP τ y (tH τ)) 0 10 0) 0 9 (y 0 9 + 1)
/-- told as it must be -/
def VT (τ : TT) : Prop := tP τ ≤ 8 ∧ tH τ ≤ 5
theorem bsP_place (τ : TT) (y : YT) (h : Nat) : ∀ n, n ≤ 8 → (bsP τ y h n).1 = -1 ∨ ∃ p, p < n ∧ (bsP τ y h n).1 = nI p ∧ y 3 p = -1 := by
  intro n
  induction n with
  | zero => intro _; exact Or.inl rfl
  | succ n ih =>
    intro hn
    have ih := ih (by omega)
    have old : (bsP τ y h n).1 = -1 ∨ ∃ p, p < n + 1 ∧ (bsP τ y h n).1 = nI p ∧ y 3 p = -1 := by
      rcases ih with e | ⟨p, h1, h2, h3⟩
      · exact Or.inl e
      · exact Or.inr ⟨p, by omega, h2, h3⟩
    unfold bsP
    by_cases he : y 3 n = -1
    · rw [if_neg (not_not_intro he)]
      by_cases hb : (bsP τ y h n).1 = -1
      · rw [if_pos hb]
        exact Or.inr ⟨n, by omega, rfl, he⟩
      · rw [if_neg hb]
        by_cases hl : lkP τ y h n ≤ (bsP τ y h n).2
        · rw [if_pos hl]
          exact old
        · rw [if_neg hl]
          exact Or.inr ⟨n, by omega, rfl, he⟩
    · rw [if_pos he]
      exact old
theorem nI_m1 {p : Nat} (h : p < 2 ^ 31) : ¬ nI p = -1 := by
  intro e
  have e2 := congrArg Int32.toInt e
  rw [nI_toInt h] at e2
  have : (-1 : Int32).toInt = -1 := by decide
  omega
theorem plP_place {τ : TT} (V : VT τ) (y : YT) (h : Nat) : plP τ y h = -1 ∨ ∃ p, p < tP τ ∧ plP τ y h = nI p ∧ y 3 p = -1 := by
  unfold plP
  split
  next => exact bsP_place τ y h _ V.1
  next => exact Or.inl rfl
/-- what a day doesn't touch -/
theorem up2_ne {y : YT} {i j a b : Nat} {v : Int32} (h : ¬ (a = i ∧ b = j)) : up2 y i j v a b = y a b := if_neg h
theorem up2_eq {y : YT} {i j : Nat} {v : Int32} : up2 y i j v i j = v := if_pos ⟨rfl, rfl⟩
theorem upR_ne {y : YT} {i a : Nat} {g : Nat → Int32} (h : ¬ a = i) : upR y i g a = y a := if_neg h
theorem upR_eq {y : YT} {i : Nat} {g : Nat → Int32} : upR y i g i = g := if_pos rfl
theorem hnP_row (τ : TT) (y : YT) (h a : Nat) (ha : a = 0 ∨ a = 1 ∨ a = 2 ∨ a = 5 ∨ a = 6) : hnP τ y h a = y a := by
  unfold hnP
  split
  next => rfl
  next =>
    funext b
    unfold egP
    repeat rw [up2_ne (by omega)]
theorem dyP_row (τ : TT) (y : YT) (a : Nat) (ha : a = 0 ∨ a = 1 ∨ a = 2 ∨ a = 5 ∨ a = 6) : ∀ n, dyP τ y n a = y a := by
  intro n
  induction n with
  | zero => unfold dyP; rw [upR_ne (by omega), upR_ne (by omega)]
  | succ n ih => unfold dyP; rw [hnP_row τ _ n a ha, ih]
