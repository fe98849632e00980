/-! THE ROW, pure -/
theorem AH_far (d : PD) (m w : Nat) : AH d m w ≤ 1000000 := mn_far _ _
theorem sa_le {a b c e : Nat} (h1 : a ≤ b) (h2 : c ≤ e) : sa a c ≤ sa b e := by unfold sa; omega
theorem NXf_far (d : PD) (P : Nat → Nat) (a w j : Nat) : NXf d P a w j ≤ 1000000 := mn_far _ _
def MW (d : PD) (P : Nat → Nat) (a w : Nat) : Nat := mn (dn d) (fun f => sa (sa (P f) (dJ d a (w + 1))) (AH d (dn d - f) w))
theorem MW_ref {d : PD} {P : Nat → Nat} {a w : Nat} (hl : ∀ v, v < dwy d w → 0 < dln d w v) : MW d P a w = mn (dn d + 1) (fun j => sa (NXf d P a w j) (BE d (dn d - j) (w + 1))) := by
  apply Nat.le_antisymm
  · refine mn_ge (mn_far _ _) (fun j hj => ?_)
    unfold NXf
    rw [sa_mnL]
    refine mn_ge (mn_far _ _) (fun i hi => ?_)
    have h1 : MW d P a w ≤ sa (sa (P i) (dJ d a (w + 1))) (AH d (dn d - i) w) := mn_le (k := dn d) (f := fun f => sa (sa (P f) (dJ d a (w + 1))) (AH d (dn d - f) w)) (i := i) (by omega)
    have h2 : AH d (dn d - i) w ≤ sa (OF d w i (j - i)) (BE d (dn d - j) (w + 1)) := by
      rw [K1 d w i (dn d - i) hl (by omega)]
      have := mn_le (k := dn d - i) (f := fun t => sa (OF d w i (t + 1)) (BE d (dn d - i - (t + 1)) (w + 1))) (i := j - i - 1) (by omega)
      try dsimp only at this
      rw [show j - i - 1 + 1 = j - i by omega, show dn d - i - (j - i) = dn d - j by omega] at this
      exact this
    refine Nat.le_trans h1 ?_
    rw [sa_assoc (sa (P i) (dJ d a (w + 1)))]
    exact sa_le (Nat.le_refl _) h2
  · refine mn_ge (mn_far _ _) (fun f hf => ?_)
    try dsimp only
    rw [K1 d w f (dn d - f) hl (by omega), sa_mnR]
    refine mn_ge (mn_far _ _) (fun t ht => ?_)
    have h1 := mn_le (k := dn d + 1) (f := fun j => sa (NXf d P a w j) (BE d (dn d - j) (w + 1))) (i := f + (t + 1)) (by omega)
    try dsimp only at h1
    have h2 : NXf d P a w (f + (t + 1)) ≤ sa (sa (P f) (dJ d a (w + 1))) (OF d w f (t + 1)) := by
      have := mn_le (k := f + (t + 1)) (f := fun i => sa (sa (P i) (dJ d a (w + 1))) (OF d w i (f + (t + 1) - i))) (i := f) (by omega)
      try dsimp only at this
      rw [show f + (t + 1) - f = t + 1 by omega] at this
      exact this
    refine Nat.le_trans h1 ?_
    try dsimp only
    rw [← sa_assoc, show dn d - (f + (t + 1)) = dn d - f - (t + 1) by omega]
    exact sa_le h2 (Nat.le_refl _)
def RI (d : PD) (L r : Nat) (P : Nat → Nat) (a : Nat) : Prop := mn (dn d + 1) (fun f => sa (P f) (BE d (dn d - f) a)) = L ∧ (∀ f, f < r → P f = 1000000) ∧ (∀ f, P f ≤ 1000000) ∧ (a = 0 → P (dn d) = 1000000) ∧ a ≤ dW d ∧ r ≤ dn d
theorem RI_lb {d : PD} {L r : Nat} {P : Nat → Nat} {a w : Nat} (h : RI d L r P a) (hw : w < dW d) : L ≤ MW d P a w := by
  have hL : L ≤ 1000000 := by rw [← h.1]; exact mn_far _ _
  refine mn_ge hL (fun f hf => ?_)
  have h1 := mn_le (k := dn d + 1) (f := fun f => sa (P f) (BE d (dn d - f) a)) (i := f) (by omega)
  rw [h.1] at h1
  try dsimp only at h1
  obtain ⟨m, hm⟩ : ∃ m, dn d - f = m + 1 := ⟨dn d - f - 1, by omega⟩
  rw [hm, BE_s] at h1
  have h2 := mn_le (k := dW d) (f := fun x => dJ d a (x + 1) + AH d (m + 1) x) (i := w) hw
  try dsimp only at h2 ⊢
  rw [hm]
  have h3 := AH_far d (m + 1) w
  refine Nat.le_trans h1 ?_
  generalize mn (dW d) (fun x => dJ d a (x + 1) + AH d (m + 1) x) = z at *
  unfold sa
  omega
theorem RI_hitC {d : PD} {L r : Nat} {P : Nat → Nat} {a w : Nat} (h : RI d L r P a) (hL : L < 1000000) (hw : w < dW d) : (∃ f, f < dn d ∧ P f + dJ d a (w + 1) + AH d (dn d - f) w = L) ↔ MW d P a w = L := by
  constructor
  · rintro ⟨f, h1, h2⟩
    have h3 := mn_le (k := dn d) (f := fun f => sa (sa (P f) (dJ d a (w + 1))) (AH d (dn d - f) w)) (i := f) h1
    have h4 := RI_lb h hw
    have h5 : sa (sa (P f) (dJ d a (w + 1))) (AH d (dn d - f) w) ≤ L := by rw [← h2]; unfold sa; omega
    exact Nat.le_antisymm (Nat.le_trans h3 h5) h4
  · intro e
    obtain ⟨f, h1, h2⟩ := mn_some (k := dn d) (f := fun f => sa (sa (P f) (dJ d a (w + 1))) (AH d (dn d - f) w)) (show MW d P a w < 1000000 by omega)
    refine ⟨f, h1, ?_⟩
    have h3 : sa (sa (P f) (dJ d a (w + 1))) (AH d (dn d - f) w) = L := h2.trans e
    unfold sa at h3
    omega
theorem hit_iff {d : PD} {L : Nat} {P : Nat → Nat} {a w : Nat} : hit d L P a w = true ↔ ∃ j, j ≤ dn d ∧ NXf d P a w j + BE d (dn d - j) (w + 1) = L := by
  unfold hit
  rw [List.any_eq_true]
  constructor
  · rintro ⟨j, h1, h2⟩
    exact ⟨j, by have := List.mem_range.mp h1; omega, of_decide_eq_true h2⟩
  · rintro ⟨j, h1, h2⟩
    exact ⟨j, List.mem_range.mpr (by omega), decide_eq_true h2⟩
theorem RI_hitM {d : PD} {L r : Nat} {P : Nat → Nat} {a w : Nat} (h : RI d L r P a) (hL : L < 1000000) (hw : w < dW d) (hl : ∀ v, v < dwy d w → 0 < dln d w v) : hit d L P a w = true ↔ MW d P a w = L := by
  rw [hit_iff]
  have hm := MW_ref (P := P) (a := a) hl
  constructor
  · rintro ⟨j, h1, h2⟩
    have h3 := mn_le (k := dn d + 1) (f := fun j => sa (NXf d P a w j) (BE d (dn d - j) (w + 1))) (i := j) (by omega)
    have h4 := RI_lb h hw
    have h5 : sa (NXf d P a w j) (BE d (dn d - j) (w + 1)) ≤ L := by rw [← h2]; unfold sa; omega
    rw [← hm] at h3
    exact Nat.le_antisymm (Nat.le_trans h3 h5) h4
  · intro e
    rw [hm] at e
    obtain ⟨j, h1, h2⟩ := mn_some (k := dn d + 1) (f := fun j => sa (NXf d P a w j) (BE d (dn d - j) (w + 1))) (by omega)
    refine ⟨j, by omega, ?_⟩
    have h3 : sa (NXf d P a w j) (BE d (dn d - j) (w + 1)) = L := h2.trans e
    unfold sa at h3
    omega
theorem RI_ex {d : PD} {L r : Nat} {P : Nat → Nat} {a : Nat} (h : RI d L r P a) (hL : L < 1000000) (ht : ¬ (a ≠ 0 ∧ P (dn d) + dJ d a 0 = L)) : ∃ w, w < dW d ∧ MW d P a w = L := by
  obtain ⟨f, h1, h2⟩ := mn_some (k := dn d + 1) (f := fun f => sa (P f) (BE d (dn d - f) a)) (by rw [h.1]; exact hL)
  rw [h.1] at h2
  try dsimp only at h2
  by_cases e : f = dn d
  · exfalso
    subst e
    rw [Nat.sub_self, BE_0] at h2
    apply ht
    have h3 : P (dn d) + dJ d a 0 = L := by unfold sa at h2; omega
    refine ⟨fun q => ?_, h3⟩
    have := h.2.2.2.1 q
    omega
  · obtain ⟨m, hm⟩ : ∃ m, dn d - f = m + 1 := ⟨dn d - f - 1, by omega⟩
    rw [hm, BE_s] at h2
    have h3 : mn (dW d) (fun x => dJ d a (x + 1) + AH d (m + 1) x) < 1000000 := by unfold sa at h2; omega
    obtain ⟨w, h4, h5⟩ := mn_some h3
    refine ⟨w, h4, (RI_hitC h hL h4).mp ⟨f, by omega, ?_⟩⟩
    try dsimp only at h5
    rw [hm]
    rw [← h5] at h2
    unfold sa at h2
    omega
theorem RI_next {d : PD} {L r : Nat} {P : Nat → Nat} {a w : Nat} (h : RI d L r P a) (hL : L < 1000000) (hw : w < dW d) (hl : ∀ v, v < dwy d w → 0 < dln d w v) (e : MW d P a w = L) : RI d L (r + 1) (NXf d P a w) (w + 1) := by
  refine ⟨by rw [← MW_ref hl]; exact e, fun f hf => ?_, fun f => NXf_far d P a w f, fun q => by omega, by omega, ?_⟩
  · refine mn_const_far f (fun i hi => ?_)
    try dsimp only
    rw [h.2.1 i (by omega)]
    unfold sa
    omega
  · obtain ⟨f, h1, h2⟩ := (RI_hitC h hL hw).mpr e
    have : ¬ f < r := fun q => by have := h.2.1 f q; omega
    omega
theorem RI_start {d : PD} (hn : 0 < dn d) (hL : BE d (dn d) 0 < 1000000) : RI d (BE d (dn d) 0) 0 P0 0 := by
  refine ⟨?_, fun f hf => by omega, fun f => by unfold P0; split <;> omega, fun _ => by unfold P0; rw [if_neg (by omega)], by omega, by omega⟩
  rw [mn_shift]
  have e0 : mn (dn d) (fun i => sa (P0 (i + 1)) (BE d (dn d - (i + 1)) 0)) = 1000000 := mn_const_far _ (fun i _ => by
    have : P0 (i + 1) = 1000000 := if_neg (by omega)
    rw [this]
    unfold sa
    omega)
  rw [e0]
  show min (sa 0 (BE d (dn d - 0) 0)) 1000000 = _
  rw [Nat.sub_zero]
  unfold sa
  omega
theorem RI_full {d : PD} {L r : Nat} {P : Nat → Nat} {a : Nat} (h : RI d L r P a) (hL : L < 1000000) (hr : r = dn d) : a ≠ 0 ∧ P (dn d) + dJ d a 0 = L := by
  apply Decidable.byContradiction
  intro ht
  obtain ⟨w, h1, h2⟩ := RI_ex h hL ht
  obtain ⟨f, h3, h4⟩ := (RI_hitC h hL h1).mpr h2
  have := h.2.1 f (by omega)
  omega
theorem RWs_end {d : PD} {L f : Nat} {P : Nat → Nat} {a : Nat} (h : a ≠ 0 ∧ P (dn d) + dJ d a 0 = L) : RWs d L f P a = [] := by
  cases f with
  | zero => rfl
  | succ f => unfold RWs; rw [if_pos h]
theorem RI_step {d : PD} {L r f : Nat} {P : Nat → Nat} {a : Nat} (hl : ∀ w v, w < dW d → v < dwy d w → 0 < dln d w v) (h : RI d L r P a) (hL : L < 1000000) (hf : r + f = dn d) (ht : ¬ (a ≠ 0 ∧ P (dn d) + dJ d a 0 = L)) : ∃ w g, f = g + 1 ∧ w < dW d ∧ MW d P a w = L ∧ (∀ x, x < w → ¬ MW d P a x = L) ∧ RWs d L f P a = w :: RWs d L g (NXf d P a w) (w + 1) ∧ RI d L (r + 1) (NXf d P a w) (w + 1) := by
  obtain ⟨g, rfl⟩ : ∃ g, f = g + 1 := by
    cases f with
    | zero => exact absurd (RI_full h hL (by omega)) ht
    | succ g => exact ⟨g, rfl⟩
  obtain ⟨w, ⟨h1, h2⟩, h3⟩ := pk_least (fun w => w < dW d ∧ MW d P a w = L) (RI_ex h hL ht)
  have h4 : ∀ x, x < w → ¬ MW d P a x = L := fun x hx q => h3 x hx ⟨by omega, q⟩
  have hf : (List.range (dW d)).find? (hit d L P a) = some w := by
    rw [List.find?_range_eq_some]
    refine ⟨(RI_hitM h hL h1 (fun v hv => hl w v h1 hv)).mpr h2, List.mem_range.mpr h1, fun x hx => ?_⟩
    cases hz : hit d L P a x with
    | false => rfl
    | true => exact absurd ((RI_hitM h hL (by omega) (fun v hv => hl x v (by omega) hv)).mp hz) (h4 x hx)
  refine ⟨w, g, rfl, h1, h2, h4, ?_, RI_next h hL h1 (fun v hv => hl w v h1 hv) h2⟩
  show (if a ≠ 0 ∧ P (dn d) + dJ d a 0 = L then [] else match (List.range (dW d)).find? (hit d L P a) with
    | some w => w :: RWs d L g (NXf d P a w) (w + 1)
    | none => []) = _
  rw [if_neg ht, hf]
theorem RWs_len {d : PD} {L : Nat} : ∀ (f : Nat) (P : Nat → Nat) (a : Nat), (RWs d L f P a).length ≤ f
  | 0, _, _ => Nat.le_refl _
  | f + 1, P, a => by
    unfold RWs
    split
    · simp
    · split
      · rename_i w hw
        have := RWs_len (d := d) (L := L) f (NXf d P a w) (w + 1)
        show (w :: RWs d L f (NXf d P a w) (w + 1)).length ≤ f + 1
        rw [List.length_cons]
        omega
      · show 0 ≤ f + 1
        omega
theorem RWs_W {d : PD} {L : Nat} : ∀ (f : Nat) (P : Nat → Nat) (a : Nat), ∀ x ∈ RWs d L f P a, x < dW d
  | 0, _, _ => fun x hx => by cases hx
  | f + 1, P, a => by
    intro x hx
    unfold RWs at hx
    split at hx
    · cases hx
    · split at hx
      · rename_i w hw
        rcases List.mem_cons.mp hx with q | q
        · rw [q]
          exact List.mem_range.mp (List.mem_of_find?_eq_some hw)
        · exact RWs_W f _ _ x q
      · cases hx
theorem ROW_ok {d : PD} (hl : ∀ w v, w < dW d → v < dwy d w → 0 < dln d w v) (hL : LSd d < 1000000) : 1 ≤ (ROW d).length ∧ (ROW d).length ≤ dn d ∧ ∀ i, i < (ROW d).length → (ROW d).getD i 0 < dW d := by
  have hn : 0 < dn d := by
    rcases Nat.eq_zero_or_pos (dn d) with q | q
    · unfold LSd at hL; rw [if_pos q] at hL; omega
    · exact q
  have eL : LSd d = BE d (dn d) 0 := if_neg (by omega)
  refine ⟨?_, RWs_len _ _ _, fun i hi => ?_⟩
  · unfold ROW
    rw [eL] at hL ⊢
    obtain ⟨w, g, h1, h2, h3, h4, h5, h6⟩ := RI_step (f := dn d) hl (RI_start hn hL) hL (by omega) (fun q => q.1 rfl)
    rw [h5]
    simp
  · rw [List.getD_eq_getElem?_getD, List.getElem?_eq_getElem hi]
    exact RWs_W _ _ _ _ (List.getElem_mem hi)
