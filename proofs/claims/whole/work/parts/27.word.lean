/-- the four sounds of a way: the first ln of them, then -1 -/
def qf (ln : Nat) (s : Nat → Nat) (k : Nat) : Int32 := if k < ln then nI (s k) else -1
theorem so_w1 {p : Int32} (h : p = -1) : F_X10_within p 0 5 = 0 := by subst h; decide
theorem so_wm {p : Int32} : F_X10_within p (-1) 5 = if p = -1 then 1 else F_X10_within p 0 5 := by
  by_cases c : p = -1
  · rw [if_pos c, c]; decide
  · rw [if_neg c, wi_m1 c]
theorem wi_01 (p a b : Int32) : F_X10_within p a b = 0 ∨ F_X10_within p a b = 1 := B_X10_within p a b
theorem so_cases (p1 p2 p3 p4 : Int32) : (F_X10_areSounds p1 p2 p3 p4 = 0 ∧ F_X11_manyOf p1 p2 p3 p4 = -1) ∨ (∃ ln s, 1 ≤ ln ∧ ln ≤ 4 ∧ (∀ k, k < ln → s k < 6) ∧ p1 = qf ln s 0 ∧ p2 = qf ln s 1 ∧ p3 = qf ln s 2 ∧ p4 = qf ln s 3 ∧ ¬ F_X10_areSounds p1 p2 p3 p4 = 0 ∧ F_X11_manyOf p1 p2 p3 p4 = nI ln) := by
  unfold F_X10_areSounds F_X11_manyOf F_X10_mayFollow
  rw [in_eq, so_wm, so_wm, so_wm]
  by_cases w1 : F_X10_within p1 0 5 = 0
  · left; simp [w1]
  have n1 : ¬ p1 = -1 := fun q => w1 (so_w1 q)
  obtain ⟨s0, -, u0, e0⟩ := wi_ok (a := 0) (b := 5) (by omega) (by omega) w1
  rw [if_neg w1, if_neg w1]
  by_cases c2 : p2 = -1
  · by_cases c3 : p3 = -1
    · by_cases c4 : p4 = -1
      · right
        refine ⟨1, fun _ => s0, by omega, by omega, fun k _ => by dsimp only; omega, e0, c2, c3, c4, ?_, ?_⟩ <;> simp [c2, c3, c4] <;> decide
      · left
        by_cases w4 : F_X10_within p4 0 5 = 0 <;> simp [c2, c3, c4, w4]
    · left
      by_cases w3 : F_X10_within p3 0 5 = 0
      · simp [c2, c3, w3]
      · by_cases c4 : p4 = -1
        · simp [c2, c3, c4, w3]
        · by_cases w4 : F_X10_within p4 0 5 = 0 <;> simp [c2, c3, c4, w3, w4]
  · by_cases w2 : F_X10_within p2 0 5 = 0
    · left; simp [c2, w2]
    obtain ⟨s1, -, u1, e1⟩ := wi_ok (a := 0) (b := 5) (by omega) (by omega) w2
    by_cases c3 : p3 = -1
    · by_cases c4 : p4 = -1
      · right
        refine ⟨2, fun k => if k = 0 then s0 else s1, by omega, by omega, fun k _ => by dsimp only; split <;> omega, e0, e1, c3, c4, ?_, ?_⟩ <;> simp [n1, c2, c3, c4, w2] <;> decide
      · left
        by_cases w4 : F_X10_within p4 0 5 = 0 <;> simp [n1, c2, c3, c4, w2, w4]
    · by_cases w3 : F_X10_within p3 0 5 = 0
      · left; simp [n1, c2, c3, w2, w3]
      obtain ⟨s2, -, u2, e2⟩ := wi_ok (a := 0) (b := 5) (by omega) (by omega) w3
      by_cases c4 : p4 = -1
      · right
        refine ⟨3, fun k => if k = 0 then s0 else if k = 1 then s1 else s2, by omega, by omega, fun k _ => by dsimp only; split <;> (try split) <;> omega, e0, e1, e2, c4, ?_, ?_⟩ <;> simp [n1, c2, c3, c4, w2, w3] <;> decide
      · by_cases w4 : F_X10_within p4 0 5 = 0
        · left; simp [n1, c2, c3, c4, w2, w3, w4]
        · obtain ⟨s3, -, u3, e3⟩ := wi_ok (a := 0) (b := 5) (by omega) (by omega) w4
          right
          refine ⟨4, fun k => if k = 0 then s0 else if k = 1 then s1 else if k = 2 then s2 else s3, by omega, by omega, fun k _ => by dsimp only; split <;> (try split) <;> (try split) <;> omega, e0, e1, e2, e3, ?_, ?_⟩ <;> simp [n1, c2, c3, c4, w2, w3, w4] <;> decide
/-- behind j of the four appends -/
def APS (ln : Nat) (s : Nat → Nat) (at_ : Nat) (mem : TMem) (j : Nat) (m : TMem) : Prop := m 28 at_ = nI (min j ln) ∧ (∀ k, k < min j ln → m (12 + at_) k = nI (s k)) ∧ (∀ o k, ¬ o = 28 → ¬ o = 12 + at_ → m o k = mem o k) ∧ (∀ k, ¬ k = at_ → m 28 k = mem 28 k)
theorem aps_step {ln at_ j : Nat} {s : Nat → Nat} {mem m : TMem} (hl : ln ≤ 4) (ha : at_ < 16) (hs : ∀ k, k < ln → s k < 6) (h : APS ln s at_ mem j m) : G_X5_append m (nI at_) (qf ln s j) ∧ APS ln s at_ mem (j + 1) (M_X5_append m (nI at_) (qf ln s j)) := by
  obtain ⟨h1, h2, h3, h4⟩ := h
  unfold G_X5_append M_X5_append qf
  rw [nI_clamp (by omega)]
  by_cases hj : j < ln
  · have hm : min j ln = j := by omega
    have hm2 : min (j + 1) ln = j + 1 := by omega
    rw [hm] at h1 h2
    have ne : ¬ nI (s j) = -1 := fun q => by
      have := congrArg Int32.toInt q
      rw [nI_toInt (by have := hs j hj; omega)] at this
      have e : (-1 : Int32).toInt = -1 := by decide
      omega
    have n4 : ¬ (4 : Int32) ≤ nI j := nI_ge (b := 4) (by omega) (by omega)
    rw [if_pos hj, h1, if_neg ne, if_neg n4, nI_clamp (by omega), nI_1]
    refine ⟨fun _ => ⟨vp_in_nI ha (by omega), fun _ => vp_in_nI (by omega) (by omega)⟩, ?_, ?_, ?_, ?_⟩
    · rw [hm2, ms_eq]
    · intro k hk
      rw [hm2] at hk
      rw [ms_ne (by omega)]
      by_cases hkj : k = j
      · subst hkj; rw [ms_eq]
      · rw [ms_sl hkj]; exact h2 k (by omega)
    · intro o k ho1 ho2
      rw [ms_ne ho1, ms_ne ho2]; exact h3 o k ho1 ho2
    · intro k hk
      rw [ms_sl hk, ms_ne (by omega)]; exact h4 k hk
  · rw [if_neg hj, if_pos rfl]
    have hm : min (j + 1) ln = min j ln := by omega
    exact ⟨fun q => absurd rfl q, by rw [hm]; exact h1, by rw [hm]; exact h2, h3, h4⟩
theorem addWay_ok {ln w u : Nat} {s : Nat → Nat} {mem : TMem} (hl1 : 1 ≤ ln) (hl : ln ≤ 4) (hw : w < 8) (hu : u < 2) (hs : ∀ k, k < ln → s k < 6) (h29 : mem 29 w = nI u) (h28 : mem 28 (2 * w + u) = 0) : G_X5_addWay mem (nI w) (qf ln s 0) (qf ln s 1) (qf ln s 2) (qf ln s 3) ∧ ∀ m2, m2 = M_X5_addWay mem (nI w) (qf ln s 0) (qf ln s 1) (qf ln s 2) (qf ln s 3) → m2 29 w = nI (u + 1) ∧ (∀ k, ¬ k = w → m2 29 k = mem 29 k) ∧ m2 28 (2 * w + u) = nI ln ∧ (∀ k, ¬ k = 2 * w + u → m2 28 k = mem 28 k) ∧ (∀ k, k < ln → m2 (12 + (2 * w + u)) k = nI (s k)) ∧ (∀ o k, ¬ o = 28 → ¬ o = 29 → ¬ o = 12 + (2 * w + u) → m2 o k = mem o k) := by
  have e : nI w * 2 + nI u = nI (2 * w + u) := by rw [show (2 : Int32) = nI 2 from rfl, pk_mul, nI_add, Nat.mul_comm]
  have lt : nI u < 2 := (nI_ltI (b := 2) (by omega) (by omega)).mpr hu
  have h0 : APS ln s (2 * w + u) mem 0 mem := ⟨by rw [h28, Nat.zero_min, nI_0], fun k hk => by omega, fun _ _ _ _ => rfl, fun _ _ => rfl⟩
  obtain ⟨g0, h1⟩ := aps_step hl (by omega) hs h0
  obtain ⟨g1, h2⟩ := aps_step hl (by omega) hs h1
  obtain ⟨g2, h3⟩ := aps_step hl (by omega) hs h2
  obtain ⟨g3, h4⟩ := aps_step hl (by omega) hs h3
  unfold G_X5_addWay M_X5_addWay
  rw [nI_clamp (by omega), h29, e, if_pos lt]
  refine ⟨⟨vp_in_nI hw (by omega), fun _ => ⟨g0, g1, g2, g3⟩⟩, ?_⟩
  generalize M_X5_append (M_X5_append (M_X5_append (M_X5_append mem (nI (2 * w + u)) (qf ln s 0)) (nI (2 * w + u)) (qf ln s 1)) (nI (2 * w + u)) (qf ln s 2)) (nI (2 * w + u)) (qf ln s 3) = m at h4
  obtain ⟨q1, q2, q3, q4⟩ := h4
  have hm : min (0 + 1 + 1 + 1 + 1) ln = ln := by omega
  rw [hm] at q1 q2
  rintro m2 rfl
  have q29 : ∀ k, m 29 k = mem 29 k := fun k => q3 29 k (by omega) (by omega)
  refine ⟨?_, ?_, ?_, ?_, ?_, ?_⟩
  · rw [ms_eq, q29, h29, nI_1]
  · intro k hk; rw [ms_sl hk, q29]
  · rw [ms_ne (by omega), q1]
  · intro k hk; rw [ms_ne (by omega)]; exact q4 k hk
  · intro k hk; rw [ms_ne (by omega)]; exact q2 k hk
  · intro o k o1 o2 o3; rw [ms_ne o2]; exact q3 o k o1 o3
