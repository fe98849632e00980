/-! SPEECH: the first of m side by side -/
def runAt (lo : Nat → Bool) (i m : Nat) : Prop := ∀ t, t < m → lo (i + t) = true
def FST (lo : Nat → Bool) (fr m n : Nat) (r : Int32) : Prop := (r = -1 ∧ ∀ i, fr ≤ i → i + m ≤ n → ¬ runAt lo i m) ∨ ∃ i, fr ≤ i ∧ r = nI i ∧ i + m ≤ n ∧ runAt lo i m ∧ ∀ i2, fr ≤ i2 → i2 < i → ¬ runAt lo i2 m
theorem FST_one {lo : Nat → Bool} {fr m n : Nat} {r r2 : Int32} (h : FST lo fr m n r) (h2 : FST lo fr m n r2) : r = r2 := by
  rcases h with ⟨rfl, h⟩ | ⟨i, a1, rfl, a3, a4, a5⟩
  · rcases h2 with ⟨rfl, -⟩ | ⟨i, a1, rfl, a3, a4, a5⟩
    · rfl
    · exact absurd a4 (h i a1 a3)
  · rcases h2 with ⟨rfl, h⟩ | ⟨i2, b1, rfl, b3, b4, b5⟩
    · exact absurd a4 (h i a1 a3)
    · rcases Nat.lt_trichotomy i i2 with q | q | q
      · exact absurd a4 (b5 i a1 q)
      · rw [q]
      · exact absurd b4 (a5 i2 b1 q)
/-- the counter's state: c true ones stand ahead of f, none whole so far -/
def CNT (lo : Nat → Bool) (fr m f c : Nat) : Prop := fr + c ≤ f ∧ c < m ∧ runAt lo (f - c) c ∧ (f - c = fr ∨ lo (f - c - 1) = false) ∧ ∀ i, fr ≤ i → i + m ≤ f → ¬ runAt lo i m
theorem CNT_0 {lo : Nat → Bool} {fr m : Nat} (hm : 1 ≤ m) : CNT lo fr m fr 0 := ⟨by omega, by omega, fun t ht => by omega, Or.inl (by omega), fun i h1 h2 => by omega⟩
theorem CNT_no {lo : Nat → Bool} {fr m f c : Nat} (hm : 1 ≤ m) (h : CNT lo fr m f c) (hf : lo f = false) : CNT lo fr m (f + 1) 0 := by
  obtain ⟨h1, h2, h3, h4, h5⟩ := h
  refine ⟨by omega, by omega, fun t ht => by omega, Or.inr ?_, fun i q1 q2 q3 => ?_⟩
  · rw [show f + 1 - 0 - 1 = f by omega]; exact hf
  · by_cases e : i + m ≤ f
    · exact h5 i q1 e q3
    · have := q3 (f - i) (by omega)
      rw [show i + (f - i) = f by omega, hf] at this
      cases this
theorem CNT_go {lo : Nat → Bool} {fr m f c : Nat} (h : CNT lo fr m f c) (hf : lo f = true) (hc : ¬ c + 1 = m) : CNT lo fr m (f + 1) (c + 1) := by
  obtain ⟨h1, h2, h3, h4, h5⟩ := h
  have e : f + 1 - (c + 1) = f - c := by omega
  refine ⟨by omega, by omega, fun t ht => ?_, ?_, fun i q1 q2 q3 => ?_⟩
  · rw [e]
    by_cases et : t = c
    · rw [et, show f - c + c = f by omega]; exact hf
    · exact h3 t (by omega)
  · rw [e]; exact h4
  · by_cases e2 : i + m ≤ f
    · exact h5 i q1 e2 q3
    · rcases h4 with h4 | h4
      · omega
      · have := q3 (f - c - 1 - i) (by omega)
        rw [show i + (f - c - 1 - i) = f - c - 1 by omega, h4] at this
        cases this
theorem CNT_hit {lo : Nat → Bool} {fr m n f c : Nat} (h : CNT lo fr m f c) (hf : lo f = true) (hc : c + 1 = m) (hn : f < n) : FST lo fr m n (nI (f + 1 - m)) := by
  obtain ⟨h1, h2, h3, h4, h5⟩ := h
  refine Or.inr ⟨f + 1 - m, by omega, rfl, by omega, fun t ht => ?_, fun i2 q1 q2 q3 => h5 i2 q1 (by omega) q3⟩
  by_cases et : t = c
  · rw [et, show f + 1 - m + c = f by omega]; exact hf
  · rw [show f + 1 - m + t = f - c + t by omega]; exact h3 t (by omega)
theorem CNT_end {lo : Nat → Bool} {fr m n c : Nat} (h : CNT lo fr m n c) : FST lo fr m n (-1) := Or.inl ⟨rfl, h.2.2.2.2⟩
theorem loud_X {mem : TMem} {n f a : Nat} (hn : n ≤ 40) (a2 : R_mk mem n) (h1 : 1 ≤ a) (h7 : a ≤ 7) (e : mem 186 0 = nI a) (hf : f < n) : G_X0_isLoud (nI f) ∧ F_X0_isLoud mem (nI f) = if decide (nI a ≤ mem 2 f) then 1 else 0 := by
  unfold G_X0_isLoud F_X0_isLoud G_X2_markOf
  have v : vp_in (nI f) 40 := vp_in_nI (by omega) (by omega)
  rw [nI_clamp (by omega), e]
  refine ⟨by first | exact v | exact ⟨v, fun _ => v⟩ | exact ⟨v, trivial⟩, ?_⟩
  rcases (a2 f hf).2 with q | ⟨j, hj, q⟩
  · have : ¬ nI a ≤ (-1 : Int32) := by
      rw [Int32.le_iff_toInt_le, nI_toInt (by omega)]
      have e : (-1 : Int32).toInt = -1 := by decide
      omega
    rw [q, if_pos rfl]
    simp [this]
  · have ne : ¬ nI j = -1 := fun q => by
      have := congrArg Int32.toInt q
      rw [nI_toInt (by omega)] at this
      have e : (-1 : Int32).toInt = -1 := by decide
      omega
    rw [q, if_neg ne]
    by_cases c : a ≤ j
    · have h1 := nI_le c (by omega)
      have h2 := nI_nlt c (by omega)
      simp [h1, h2]
    · have h1 := nI_ge (a := j) (b := a) (by omega) (by omega)
      have h2 := nI_lt (a := j) (b := a) (by omega) (by omega)
      simp [h1, h2]
