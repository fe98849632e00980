/-- a word's number or the edge, as a number from 0 on -/
theorem ix_0 : nI 0 - 1 = (-1 : Int32) := by decide
theorem ix_m1 {a : Nat} (ha : a < 2 ^ 30) : (nI a - 1 = (-1 : Int32)) ↔ a = 0 := by
  constructor
  · intro h
    cases a with
    | zero => rfl
    | succ a =>
      rw [nI_pred] at h
      exact absurd h (fun q => by
        have := congrArg Int32.toInt q
        rw [nI_toInt (by omega)] at this
        have e : (-1 : Int32).toInt = -1 := by decide
        omega)
  · rintro rfl; exact ix_0
theorem ix_p1 (a : Nat) : nI a - 1 + 1 = nI a := by
  cases a with
  | zero => decide
  | succ a => rw [nI_pred, nI_1]
theorem woe {p : Int32} {W : Nat} (hW : W ≤ 8) : (∃ a, a ≤ W ∧ p = nI a - 1) ∨ (¬ p = -1 ∧ F_X10_within p 0 (nI W - 1) = 0) := by
  by_cases c1 : p = -1
  · exact Or.inl ⟨0, Nat.zero_le _, by rw [c1, ix_0]⟩
  · by_cases c2 : F_X10_within p 0 (nI W - 1) = 0
    · exact Or.inr ⟨c1, c2⟩
    · obtain ⟨j, hj, rfl⟩ := wi_word (by omega) c2
      exact Or.inl ⟨j + 1, by omega, by rw [nI_pred]⟩
theorem woe_in {W a : Nat} (hW : W ≤ 8) (ha : a ≤ W) (h0 : ¬ a = 0) : ¬ F_X10_within (nI a - 1) 0 (nI W - 1) = 0 := by
  obtain ⟨b, rfl⟩ : ∃ b, a = b + 1 := ⟨a - 1, by omega⟩
  obtain ⟨V, rfl⟩ : ∃ V, W = V + 1 := ⟨W - 1, by omega⟩
  rw [nI_pred, nI_pred]
  exact wi_yes (a := 0) (by omega) (by omega) (by omega)
theorem beh_eq {mem : TMem} {a b : Nat} (ha : a < 9) (hb : b < 9) : G_X11_behind (nI a - 1) (nI b - 1) ∧ F_X11_behind mem (nI a - 1) (nI b - 1) = mem 193 (9 * gi a + gi b) := by
  unfold G_X11_behind F_X11_behind
  have ea := ix_m1 (a := a) (by omega)
  have eb := ix_m1 (a := b) (by omega)
  by_cases ca : a = 0
  · have fa := ea.mpr ca
    by_cases cb : b = 0
    · have fb := eb.mpr cb
      rw [if_pos fa, if_pos fb]
      subst ca; subst cb
      exact ⟨⟨fun _ => ⟨fun _ => by unfold vp_in; decide, fun q => absurd fb q⟩, fun q => absurd fa q⟩, by rfl⟩
    · have fb : ¬ nI b - 1 = -1 := fun q => cb (eb.mp q)
      obtain ⟨c, rfl⟩ : ∃ c, b = c + 1 := ⟨b - 1, by omega⟩
      have e : (9 * 8 : Int32) + (nI (c + 1) - 1) = nI (72 + c) := by rw [nI_pred, show (9 * 8 : Int32) = nI 72 from rfl, nI_add]
      rw [if_pos fa, if_neg fb, e, nI_clamp (by omega)]
      subst ca
      refine ⟨⟨fun _ => ⟨fun q => absurd q fb, fun _ => vp_in_nI (by omega) (by omega)⟩, fun q => absurd fa q⟩, ?_⟩
      simp [gi]
  · have fa : ¬ nI a - 1 = -1 := fun q => ca (ea.mp q)
    obtain ⟨x, rfl⟩ : ∃ x, a = x + 1 := ⟨a - 1, by omega⟩
    by_cases cb : b = 0
    · have fb := eb.mpr cb
      have e : (9 : Int32) * (nI (x + 1) - 1) + 8 = nI (9 * x + 8) := by rw [nI_pred, show (9 : Int32) = nI 9 from rfl, show (8 : Int32) = nI 8 from rfl, pk_mul, nI_add]
      rw [if_neg fa, if_pos fb, e, nI_clamp (by omega)]
      subst cb
      refine ⟨⟨fun q => absurd q fa, fun _ => ⟨fun _ => vp_in_nI (by omega) (by omega), fun q => absurd fb q⟩⟩, ?_⟩
      simp [gi]
    · have fb : ¬ nI b - 1 = -1 := fun q => cb (eb.mp q)
      obtain ⟨c, rfl⟩ : ∃ c, b = c + 1 := ⟨b - 1, by omega⟩
      have e : (9 : Int32) * (nI (x + 1) - 1) + (nI (c + 1) - 1) = nI (9 * x + c) := by rw [nI_pred, nI_pred, show (9 : Int32) = nI 9 from rfl, pk_mul, nI_add]
      rw [if_neg fa, if_neg fb, e, nI_clamp (by omega)]
      refine ⟨⟨fun q => absurd q fa, fun _ => ⟨fun q => absurd q fb, fun _ => vp_in_nI (by omega) (by omega)⟩⟩, ?_⟩
      simp [gi]
theorem gram_bad {mem : TMem} {p1 p2 p3 : Int32} (h : (¬ p1 = -1 ∧ F_X10_within p1 0 (mem 187 4 - 1) = 0) ∨ (¬ p2 = -1 ∧ F_X10_within p2 0 (mem 187 4 - 1) = 0) ∨ (p1 = -1 ∧ p2 = -1) ∨ F_X10_within p3 (-1) 100 = 0) : G_X11_grammar mem p1 p2 p3 ∧ F_X11_grammar mem p1 p2 p3 = -2 ∧ M_X11_grammar mem p1 p2 p3 = mem := by
  unfold G_X11_grammar F_X11_grammar M_X11_grammar
  rw [in_eq]
  by_cases c1 : p1 = -1 <;> by_cases c2 : p2 = -1 <;> by_cases c3 : F_X10_within p1 0 (mem 187 4 - 1) = 0 <;> by_cases c4 : F_X10_within p2 0 (mem 187 4 - 1) = 0 <;> by_cases c5 : F_X10_within p3 (-1) 100 = 0 <;> simp_all
theorem gramX_bad {mem : TMem} {p1 p2 p3 : Int32} (h : (¬ p1 = -1 ∧ F_X10_within p1 0 (mem 10 4 - 1) = 0) ∨ (¬ p2 = -1 ∧ F_X10_within p2 0 (mem 10 4 - 1) = 0) ∨ (p1 = -1 ∧ p2 = -1) ∨ F_X10_within p3 (-1) 100 = 0) : G_X10_grammar mem p1 p2 p3 ∧ F_X10_grammar mem p1 p2 p3 = -2 ∧ M_X10_grammar mem p1 p2 p3 = mem := by
  have h5 : F_X10_within p3 (-1) 100 = 0 ↔ (¬ p3 = -1 ∧ F_X10_within p3 0 100 = 0) := by
    by_cases c : p3 = -1
    · subst c; exact ⟨fun q => absurd q (by decide), fun q => absurd rfl q.1⟩
    · rw [wi_m1 c]; exact ⟨fun q => ⟨c, q⟩, fun q => q.2⟩
  rw [h5] at h
  unfold G_X10_grammar F_X10_grammar M_X10_grammar F_X10_isWordOrEdge
  by_cases c1 : p1 = -1 <;> by_cases c2 : p2 = -1 <;> by_cases c3 : F_X10_within p1 0 (mem 10 4 - 1) = 0 <;> by_cases c4 : F_X10_within p2 0 (mem 10 4 - 1) = 0 <;> by_cases c5 : p3 = -1 <;> by_cases c6 : F_X10_within p3 0 100 = 0 <;> simp_all
