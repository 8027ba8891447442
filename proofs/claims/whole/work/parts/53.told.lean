/-! what a clause does to what is told, on both sides -/
def clr (τ : TT) : TT := (0, 0, upR (tY τ) 6 (fun _ => -1))
def clm (τ : TT) : TT := (tP τ, tH τ, upR (tY τ) 6 (fun _ => -1))
def adP (τ : TT) (m w g : Int32) : TT := (tP τ + 1, tH τ, up2 (up2 (up2 (tY τ) 1 (tP τ) m) 2 (tP τ) w) 3 (tP τ) g)
def adH (τ : TT) (c a : Int32) : TT := (tP τ, tH τ + 1, up2 (up2 (tY τ) 4 (tH τ) c) 5 (tH τ) a)
def nwT (τ : TT) (d : Nat) (m : Int32) : TT := (tP τ, tH τ, up2 (tY τ) 6 d m)
theorem vt_clr {τ : TT} : VT2 (clr τ) := by
  refine ⟨⟨by show 0 ≤ 8; omega, by show 0 ≤ 5; omega⟩, fun p hp => absurd hp (Nat.not_lt_zero p), fun k hk => absurd hk (Nat.not_lt_zero k), fun d hd => Or.inl ?_⟩
  show upR (tY τ) 6 (fun _ => -1) 6 d = -1
  rw [upR_eq]
theorem vt_clm {τ : TT} (V : VT2 τ) : VT2 (clm τ) := by
  obtain ⟨v0, v1, v2, v3⟩ := V
  have e : ∀ r, r ≠ 6 → tY (clm τ) r = tY τ r := fun r hr => upR_ne hr
  refine ⟨v0, fun p hp => ?_, fun k hk => ?_, fun d hd => Or.inl ?_⟩
  · rw [e 1 (by decide), e 2 (by decide), e 3 (by decide)]; exact v1 p hp
  · rw [e 4 (by decide), e 5 (by decide)]; exact v2 k hk
  · show upR (tY τ) 6 (fun _ => -1) 6 d = -1
    rw [upR_eq]
theorem vt_adP {τ : TT} (V : VT2 τ) {m w g : Int32} (hp : tP τ < 8) (hm : ∃ v, v ≤ 7 ∧ m = nI v) (hw : ∃ v, v ≤ 9 ∧ w = nI v) (hg : ∃ v, v ≤ 9 ∧ g = nI v) : VT2 (adP τ m w g) := by
  obtain ⟨v0, v1, v2, v3⟩ := V
  have e : ∀ r c, tY (adP τ m w g) r c = up2 (up2 (up2 (tY τ) 1 (tP τ) m) 2 (tP τ) w) 3 (tP τ) g r c := fun r c => rfl
  refine ⟨⟨by show tP τ + 1 ≤ 8; omega, v0.2⟩, fun p hpp => ?_, fun k hk => ?_, fun d hd => ?_⟩
  · have hpp : p < tP τ + 1 := hpp
    rw [e 1 p, e 2 p, e 3 p, up2_ne (show ¬ (1 = 3 ∧ p = tP τ) by omega), up2_ne (show ¬ (1 = 2 ∧ p = tP τ) by omega), up2_ne (show ¬ (2 = 3 ∧ p = tP τ) by omega)]
    by_cases hpe : p = tP τ
    · rw [up2_eq' rfl hpe, up2_eq' rfl hpe, up2_eq' rfl hpe]
      exact ⟨hm, hw, hg⟩
    · rw [up2_ne (by omega), up2_ne (by omega), up2_ne (by omega), up2_ne (by omega), up2_ne (by omega), up2_ne (by omega)]
      exact v1 p (by omega)
  · rw [e 4 k, e 5 k, up2_ne (by omega), up2_ne (by omega), up2_ne (by omega), up2_ne (by omega), up2_ne (by omega), up2_ne (by omega)]
    exact v2 k hk
  · rw [e 6 d, up2_ne (by omega), up2_ne (by omega), up2_ne (by omega)]
    exact v3 d hd
theorem vt_adH {τ : TT} (V : VT2 τ) {c a : Int32} (hh : tH τ < 5) (hc : ∃ v, v ≤ 3 ∧ c = nI v) (ha : ∃ v, v ≤ 9 ∧ a = nI v) : VT2 (adH τ c a) := by
  obtain ⟨v0, v1, v2, v3⟩ := V
  have e : ∀ r q, tY (adH τ c a) r q = up2 (up2 (tY τ) 4 (tH τ) c) 5 (tH τ) a r q := fun r q => rfl
  refine ⟨⟨v0.1, by show tH τ + 1 ≤ 5; omega⟩, fun p hp => ?_, fun k hk => ?_, fun d hd => ?_⟩
  · rw [e 1 p, e 2 p, e 3 p, up2_ne (by omega), up2_ne (by omega), up2_ne (by omega), up2_ne (by omega), up2_ne (by omega), up2_ne (by omega)]
    exact v1 p hp
  · have hk : k < tH τ + 1 := hk
    rw [e 4 k, e 5 k, up2_ne (show ¬ (4 = 5 ∧ k = tH τ) by omega)]
    by_cases hke : k = tH τ
    · rw [up2_eq' rfl hke, up2_eq' rfl hke]
      exact ⟨hc, ha⟩
    · rw [up2_ne (by omega), up2_ne (by omega), up2_ne (by omega)]
      exact v2 k (by omega)
  · rw [e 6 d, up2_ne (by omega), up2_ne (by omega)]
    exact v3 d hd
theorem vt_nw {τ : TT} (V : VT2 τ) {d : Nat} {m : Int32} (hm : ∃ v, v ≤ 7 ∧ m = nI v) : VT2 (nwT τ d m) := by
  obtain ⟨v0, v1, v2, v3⟩ := V
  have e : ∀ r q, tY (nwT τ d m) r q = up2 (tY τ) 6 d m r q := fun r q => rfl
  refine ⟨v0, fun p hp => ?_, fun k hk => ?_, fun q hq => ?_⟩
  · rw [e 1 p, e 2 p, e 3 p, up2_ne (by omega), up2_ne (by omega), up2_ne (by omega)]
    exact v1 p hp
  · rw [e 4 k, e 5 k, up2_ne (by omega), up2_ne (by omega)]
    exact v2 k hk
  · rw [e 6 q]
    by_cases hqd : q = d
    · rw [up2_eq' rfl hqd]; exact Or.inr hm
    · rw [up2_ne (by omega)]; exact v3 q hq
section TOLDC
variable {h : AH} {τ : TT}
theorem c_clearN (H : Lo h) (T : CT h 10 τ) : ∃ h', F_X2_clearNews h 10 = some h' ∧ Fr h h' 10 17 ∧ CT h' 10 (clm τ) := by
  refine ⟨sA h (10 + 6) (fun j => if j < 14 then -1 else hI h (10 + 6) j), ?_, (Fr.refl h _ _).sA (by omega) (by omega), ?_⟩
  · unfold F_X2_clearNews
    rw [t_ck H to_10, Option.bind_some, t_R7 H to_10, Option.bind_some, fl14 H (t_ls6 to_10), Option.bind_some]
  · obtain ⟨t1, t2, t3, t4, t5⟩ := T
    have e : ∀ r, r ≠ 6 → tY (clm τ) r = tY τ r := fun r hr => upR_ne hr
    refine ⟨?_, ?_, fun p hp => ?_, fun k hk => ?_, fun d hd => ?_⟩
    · rw [hI_sA, if_neg (by decide)]; exact t1
    · rw [hI_sA, if_neg (by decide)]; exact t2
    · rw [hI_sA, if_neg (by decide), hI_sA, if_neg (by decide), hI_sA, if_neg (by decide), e 1 (by decide), e 2 (by decide), e 3 (by decide)]; exact t3 p hp
    · rw [hI_sA, if_neg (by decide), hI_sA, if_neg (by decide), e 4 (by decide), e 5 (by decide)]; exact t4 k hk
    · rw [hI_sA, if_pos rfl, if_pos hd]
      show -1 = upR (tY τ) 6 (fun _ => -1) 6 d
      rw [upR_eq]
theorem c_clear (H : Lo h) (T : CT h 10 τ) : ∃ h', F_X2_clear h 10 = some h' ∧ Fr h h' 10 17 ∧ CT h' 10 (clr τ) := by
  have F1 : Fr h (sI (sI h 10 0 0) 10 1 0) 10 17 := ((Fr.refl h _ _).sA (by omega) (by omega)).sA (by omega) (by omega)
  have H1 : Lo (sI h 10 0 0) := H.sA _ _
  have H2 := H.fr F1
  have T1 : CT (sI (sI h 10 0 0) 10 1 0) 10 (0, 0, tY τ) := by
    obtain ⟨t1, t2, t3, t4, t5⟩ := T
    refine ⟨?_, sI_at _ _ _ _, fun p hp => absurd hp (Nat.not_lt_zero p), fun k hk => absurd hk (Nat.not_lt_zero k), fun d hd => ?_⟩
    · rw [sI_ne _ _ _ _ _ (by decide), sI_at]; rfl
    · rw [sI_ob _ _ _ _ _ (by decide), sI_ob _ _ _ _ _ (by decide)]; exact t5 d hd
  obtain ⟨h', k1, k2, k3⟩ := c_clearN H2 T1
  refine ⟨h', ?_, F1.trans k2, k3⟩
  unfold F_X2_clear
  rw [t_ck H to_10, Option.bind_some, t_pI H to_10, Option.bind_some, t_pI H1 to_10, Option.bind_some, k1, Option.bind_some]
theorem c_addP (H : Lo h) (T : CT h 10 τ) (hp : tP τ < 8) (m w g : Int32) : ∃ h', F_X2_addPlace h 10 m w g = some h' ∧ Fr h h' 10 17 ∧ CT h' 10 (adP τ m w g) := by
  obtain ⟨t1, t2, t3, t4, t5⟩ := T
  have H1 : Lo (sI h (10 + 1) (tP τ) m) := H.sA _ _
  have H2 : Lo (sI (sI h (10 + 1) (tP τ) m) (10 + 2) (tP τ) w) := H1.sA _ _
  have H3 : Lo (sI (sI (sI h (10 + 1) (tP τ) m) (10 + 2) (tP τ) w) (10 + 3) (tP τ) g) := H2.sA _ _
  have e1 : hI (sI h (10 + 1) (tP τ) m) 10 0 = nI (tP τ) := by rw [sI_ob _ _ _ _ _ (by decide)]; exact t1
  have e2 : hI (sI (sI h (10 + 1) (tP τ) m) (10 + 2) (tP τ) w) 10 0 = nI (tP τ) := by rw [sI_ob _ _ _ _ _ (by decide)]; exact e1
  have e3 : hI (sI (sI (sI h (10 + 1) (tP τ) m) (10 + 2) (tP τ) w) (10 + 3) (tP τ) g) 10 0 = nI (tP τ) := by rw [sI_ob _ _ _ _ _ (by decide)]; exact e2
  have l8 : nI (tP τ) < 8 := nI_lt (b := 8) hp (by omega)
  have e : ∀ r c, tY (adP τ m w g) r c = up2 (up2 (up2 (tY τ) 1 (tP τ) m) 2 (tP τ) w) 3 (tP τ) g r c := fun r c => rfl
  refine ⟨sI (sI (sI (sI h (10 + 1) (tP τ) m) (10 + 2) (tP τ) w) (10 + 3) (tP τ) g) 10 0 (nI (tP τ + 1)), ?_, ((((Fr.refl h _ _).sA (by omega) (by omega)).sA (by omega) (by omega)).sA (by omega) (by omega)).sA (by omega) (by omega), ?_⟩
  · unfold F_X2_addPlace
    simp only [t_ck H to_10, t_gI H to_10, Option.bind_some, t1, l8, if_true, t_R2 H to_10, t_st1 H to_10 hp, t_R3 H1 to_10, t_gI H1 to_10, e1, t_st2 H1 to_10 hp, t_R4 H2 to_10, t_gI H2 to_10, e2, t_st3 H2 to_10 hp, t_gI H3 to_10, e3, nI_1, t_pI H3 to_10]
  · refine ⟨sI_at _ _ _ _, ?_, fun p hpp => ?_, fun k hk => ?_, fun d hd => ?_⟩
    · rw [sI_ne _ _ _ _ _ (by decide), sI_ob _ _ _ _ _ (by decide), sI_ob _ _ _ _ _ (by decide), sI_ob _ _ _ _ _ (by decide)]; exact t2
    · have hpp : p < tP τ + 1 := hpp
      rw [e 1 p, e 2 p, e 3 p, up2_ne (show ¬ (1 = 3 ∧ p = tP τ) by omega), up2_ne (show ¬ (1 = 2 ∧ p = tP τ) by omega), up2_ne (show ¬ (2 = 3 ∧ p = tP τ) by omega), sI_ob _ 10 _ (10 + 1) _ (by decide), sI_ob _ 10 _ (10 + 2) _ (by decide), sI_ob _ 10 _ (10 + 3) _ (by decide), sI_ob _ (10 + 3) _ (10 + 1) _ (by decide), sI_ob _ (10 + 3) _ (10 + 2) _ (by decide), sI_ob _ (10 + 2) _ (10 + 1) _ (by decide)]
      by_cases hpe : p = tP τ
      · rw [up2_eq' rfl hpe, up2_eq' rfl hpe, up2_eq' rfl hpe, hpe, sI_at, sI_at, sI_at]
        exact ⟨rfl, rfl, rfl⟩
      · rw [sI_ne _ _ _ _ _ hpe, sI_ne _ _ _ _ _ hpe, sI_ne _ _ _ _ _ hpe, sI_ob _ (10 + 1) _ (10 + 2) _ (by decide), sI_ob _ (10 + 2) _ (10 + 3) _ (by decide), sI_ob _ (10 + 1) _ (10 + 3) _ (by decide), up2_ne (by omega), up2_ne (by omega), up2_ne (by omega), up2_ne (by omega), up2_ne (by omega), up2_ne (by omega)]
        exact t3 p (by omega)
    · rw [e 4 k, e 5 k, sI_ob _ _ _ _ _ (by decide), sI_ob _ _ _ _ _ (by decide), sI_ob _ _ _ _ _ (by decide), sI_ob _ _ _ _ _ (by decide), sI_ob _ _ _ _ _ (by decide), sI_ob _ _ _ _ _ (by decide), sI_ob _ _ _ _ _ (by decide), sI_ob _ _ _ _ _ (by decide), up2_ne (by omega), up2_ne (by omega), up2_ne (by omega), up2_ne (by omega), up2_ne (by omega), up2_ne (by omega)]
      exact t4 k hk
    · rw [e 6 d, sI_ob _ _ _ _ _ (by decide), sI_ob _ _ _ _ _ (by decide), sI_ob _ _ _ _ _ (by decide), sI_ob _ _ _ _ _ (by decide), up2_ne (by omega), up2_ne (by omega), up2_ne (by omega)]
      exact t5 d hd
theorem c_addH (H : Lo h) (T : CT h 10 τ) (hh : tH τ < 5) (c a : Int32) : ∃ h', F_X2_addHen h 10 c a = some h' ∧ Fr h h' 10 17 ∧ CT h' 10 (adH τ c a) := by
  obtain ⟨t1, t2, t3, t4, t5⟩ := T
  have H1 : Lo (sI h (10 + 4) (tH τ) c) := H.sA _ _
  have H2 : Lo (sI (sI h (10 + 4) (tH τ) c) (10 + 5) (tH τ) a) := H1.sA _ _
  have e1 : hI (sI h (10 + 4) (tH τ) c) 10 1 = nI (tH τ) := by rw [sI_ob _ _ _ _ _ (by decide)]; exact t2
  have e2 : hI (sI (sI h (10 + 4) (tH τ) c) (10 + 5) (tH τ) a) 10 1 = nI (tH τ) := by rw [sI_ob _ _ _ _ _ (by decide)]; exact e1
  have l5 : nI (tH τ) < 5 := nI_lt (b := 5) hh (by omega)
  have e : ∀ r q, tY (adH τ c a) r q = up2 (up2 (tY τ) 4 (tH τ) c) 5 (tH τ) a r q := fun r q => rfl
  refine ⟨sI (sI (sI h (10 + 4) (tH τ) c) (10 + 5) (tH τ) a) 10 1 (nI (tH τ + 1)), ?_, (((Fr.refl h _ _).sA (by omega) (by omega)).sA (by omega) (by omega)).sA (by omega) (by omega), ?_⟩
  · unfold F_X2_addHen
    simp only [t_ck H to_10, t_gI H to_10, Option.bind_some, t2, l5, if_true, t_R5 H to_10, t_st4 H to_10 hh, t_R6 H1 to_10, t_gI H1 to_10, e1, t_st5 H1 to_10 hh, t_gI H2 to_10, e2, nI_1, t_pI H2 to_10]
  · refine ⟨?_, sI_at _ _ _ _, fun p hp => ?_, fun k hk => ?_, fun d hd => ?_⟩
    · rw [sI_ne _ _ _ _ _ (by decide), sI_ob _ _ _ _ _ (by decide), sI_ob _ _ _ _ _ (by decide)]; exact t1
    · rw [e 1 p, e 2 p, e 3 p, sI_ob _ _ _ _ _ (by decide), sI_ob _ _ _ _ _ (by decide), sI_ob _ _ _ _ _ (by decide), sI_ob _ _ _ _ _ (by decide), sI_ob _ _ _ _ _ (by decide), sI_ob _ _ _ _ _ (by decide), sI_ob _ _ _ _ _ (by decide), sI_ob _ _ _ _ _ (by decide), sI_ob _ _ _ _ _ (by decide), up2_ne (by omega), up2_ne (by omega), up2_ne (by omega), up2_ne (by omega), up2_ne (by omega), up2_ne (by omega)]
      exact t3 p hp
    · have hk : k < tH τ + 1 := hk
      rw [e 4 k, e 5 k, up2_ne (show ¬ (4 = 5 ∧ k = tH τ) by omega), sI_ob _ 10 _ (10 + 4) _ (by decide), sI_ob _ 10 _ (10 + 5) _ (by decide), sI_ob _ (10 + 5) _ (10 + 4) _ (by decide)]
      by_cases hke : k = tH τ
      · rw [up2_eq' rfl hke, up2_eq' rfl hke, hke, sI_at, sI_at]
        exact ⟨rfl, rfl⟩
      · rw [sI_ne _ _ _ _ _ hke, sI_ne _ _ _ _ _ hke, sI_ob _ (10 + 4) _ (10 + 5) _ (by decide), up2_ne (by omega), up2_ne (by omega), up2_ne (by omega)]
        exact t4 k (by omega)
    · rw [e 6 d, sI_ob _ _ _ _ _ (by decide), sI_ob _ _ _ _ _ (by decide), sI_ob _ _ _ _ _ (by decide), up2_ne (by omega), up2_ne (by omega)]
      exact t5 d hd
theorem c_setN (T : CT h 10 τ) (d : Nat) (m : Int32) : CT (sI h (10 + 6) d m) 10 (nwT τ d m) := by
  obtain ⟨t1, t2, t3, t4, t5⟩ := T
  have e : ∀ r q, tY (nwT τ d m) r q = up2 (tY τ) 6 d m r q := fun r q => rfl
  refine ⟨?_, ?_, fun p hp => ?_, fun k hk => ?_, fun q hq => ?_⟩
  · rw [sI_ob _ _ _ _ _ (by decide)]; exact t1
  · rw [sI_ob _ _ _ _ _ (by decide)]; exact t2
  · rw [e 1 p, e 2 p, e 3 p, sI_ob _ _ _ _ _ (by decide), sI_ob _ _ _ _ _ (by decide), sI_ob _ _ _ _ _ (by decide), up2_ne (by omega), up2_ne (by omega), up2_ne (by omega)]
    exact t3 p hp
  · rw [e 4 k, e 5 k, sI_ob _ _ _ _ _ (by decide), sI_ob _ _ _ _ _ (by decide), up2_ne (by omega), up2_ne (by omega)]
    exact t4 k hk
  · rw [e 6 q]
    by_cases hqd : q = d
    · rw [up2_eq' rfl hqd, hqd, sI_at]
    · rw [up2_ne (by omega), sI_ne _ _ _ _ _ hqd]
      exact t5 q hq
theorem c_tcopy {t t1 : Nat} (H : Lo h) (ht : TO t) (ht1 : TO t1) (hne : t ≠ t1) (V : VT τ) (T : CT h t1 τ) : ∃ h', F_X2_copyFrom h t t1 = some h' ∧ Fr h h' t (t + 7) ∧ CT h' t τ := by
  obtain ⟨u1, u2, u3, u4, u5⟩ := T
  have v1 := V.1
  have v2 := V.2
  have tl := to_lt ht
  have tl1 := to_lt ht1
  have ap : t + 7 ≤ t1 ∨ t1 + 7 ≤ t := by unfold TO at ht ht1; omega
  have n0 : ∀ i, i < 7 → ¬ t1 = t + i := fun i hi => by omega
  have n00 : ¬ t1 = t := by omega
  have b1 : ∀ i a, i < 7 → a < 7 → ¬ t1 + i = t + a := fun i a hi ha => by omega
  have b10 : ∀ i, i < 7 → ¬ t1 + i = t := fun i hi => by omega
  have e0 : hI h t1 0 = nI (tP τ) := u1
  have e1 : hI h t1 1 = nI (tH τ) := u2
  unfold F_X2_copyFrom
  simp only [t_ck H ht, t_R2, t_R3, t_R4, t_R5, t_R6, t_R7, cp8, cp5, cp14, and_self, t_gI, t_pI, Option.bind_some, Lo_sA, H, ht, ht1, t_ls1 ht, t_ls2 ht, t_ls3 ht, t_ls4 ht, t_ls5 ht, t_ls6 ht, t_ls1 ht1, t_ls2 ht1, t_ls3 ht1, t_ls4 ht1, t_ls5 ht1, t_ls6 ht1, hI_sA, n00, if_false, e0, e1]
  refine ⟨_, rfl, ?_, ?_⟩
  · repeat refine Fr.sA ?_ (by omega) (by omega)
    exact Fr.refl _ _ _
  · refine ⟨?_, ?_, fun p hp => ?_, fun k hk => ?_, fun d hd => ?_⟩
    · simp [hI_sA, upd]
    · simp [hI_sA, upd]
    · have := u3 p hp
      have hp8 : p < 8 := by omega
      simp [hI_sA, cpy0 hp8, b1, b10]
      exact this
    · have := u4 k hk
      have hk5 : k < 5 := by omega
      simp [hI_sA, cpy0 hk5, b1, b10]
      exact this
    · have := u5 d hd
      simp [hI_sA, cpy0 hd, b1, b10]
      exact this
end TOLDC
