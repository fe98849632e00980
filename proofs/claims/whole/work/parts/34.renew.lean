/-! RENEW -/
theorem sm_le {f : Nat → Nat} {m i : Nat} (h : i < m) : f i ≤ sm f m := by
  induction m with
  | zero => omega
  | succ m ih =>
    unfold sm
    by_cases e : i = m
    · subst e; omega
    · have := ih (by omega); omega
theorem sm_congr {f g : Nat → Nat} {m : Nat} (h : ∀ i, i < m → f i = g i) : sm f m = sm g m := by
  induction m with
  | zero => rfl
  | succ m ih => unfold sm; rw [ih (fun i hi => h i (by omega)), h m (by omega)]
def rnv (ct : Nat → Nat → Nat) (old : Nat → Nat → Int32) (s j : Nat) : Int32 := if sm (ct s) 8 = 0 then old s j else nI (50 * (sm (ct s) 8 - ct s j) / sm (ct s) 8)
def rnc (ct : Nat → Nat → Nat) (s : Nat) : Nat := sm (fun s => if sm (ct s) 8 = 0 then 0 else 1) s
theorem rn_val {A c : Nat} (hA : A ≤ 20480) (h0 : ¬ A = 0) (hc : c ≤ A) : (50 : Int32) * (nI A - nI c) / nI A = nI (50 * (A - c) / A) := by
  rw [pk_sub hc, show (50 : Int32) = nI 50 from rfl, pk_mul, pk_div (by omega) (by omega) (by omega)]
theorem le0 {A : Nat} (hA : A < 2 ^ 31) : (nI A ≤ 0) ↔ A = 0 := (nI_leI (b := 0) hA (by omega)).trans Nat.le_zero
set_option maxRecDepth 100000 in
theorem C_allOf (l : Launch) {mem : TMem} {ct : Nat → Nat → Nat} {s : Nat} (hs : s < 6) (hct : ∀ j, j < 8 → mem (158 + s) j = nI (ct s j)) : TMi l i_X4_allOf 0 0 [.inr 156, .inl (nI s)] mem (fun x m => x = nI (sm (ct s) 8) ∧ m = mem) := by
  refine tw_met (by decide) (Nat.le_of_ble_eq_true rfl) (fun κ hl hC hT => ?_)
  have key : ∀ j i, j + i = 8 → WT κ 4 [some (.inr 156), some (.inl (nI s)), some (.inl (nI (sm (ct s) i))), some (.inl (nI i))] [] mem := by
    intro j
    induction j with
    | zero =>
      intro i hi
      have : i = 8 := by omega
      subst this
      exact K_X4_allOf_4 hC hT mem _ _ _ ⟨fun _ => ⟨_, rfl, rfl, rfl⟩, fun q => absurd (by decide) q⟩
    | succ j ih =>
      intro i hi
      refine K_X4_allOf_4 hC hT mem _ _ _ ⟨fun q => absurd q (nI_ge (b := 8) (by omega) (by omega)), fun _ => ⟨vp_in_nI hs (by omega), vp_in_nI (by omega) (by omega), ?_⟩⟩
      rw [nI_clamp (by omega), nI_clamp (by omega), hct i (by omega), nI_add, nI_1]
      exact ih (i + 1) (by omega)
  exact K_X4_allOf_0 hC hT mem _ (key 8 0 (by omega))
/-- how far the renewing has come -/
def dn2 (s j s2 j2 : Nat) : Prop := s2 < s ∨ (s2 = s ∧ j2 < j)
def RNX (ct : Nat → Nat → Nat) (mem : TMem) (s j : Nat) (m : TMem) : Prop := (∀ s2 j2, s2 < 6 → j2 < 8 → (dn2 s j s2 j2 → m (4 + s2) j2 = rnv ct (fun s j => mem (4 + s) j) s2 j2) ∧ (¬ dn2 s j s2 j2 → m (4 + s2) j2 = mem (4 + s2) j2)) ∧ ∀ o k, (o < 4 ∨ 10 ≤ o) → m o k = mem o k
theorem RNX_up {ct : Nat → Nat → Nat} {mem m : TMem} {s : Nat} (h : RNX ct mem s 8 m) : RNX ct mem (s + 1) 0 m := by
  refine ⟨fun s2 j2 q1 q2 => ⟨fun q => (h.1 s2 j2 q1 q2).1 (by unfold dn2 at q ⊢; omega), fun q => (h.1 s2 j2 q1 q2).2 (by unfold dn2 at q ⊢; omega)⟩, h.2⟩
theorem RNX_skip {ct : Nat → Nat → Nat} {mem m : TMem} {s : Nat} (hA : sm (ct s) 8 = 0) (h : RNX ct mem s 0 m) : RNX ct mem (s + 1) 0 m := by
  refine ⟨fun s2 j2 q1 q2 => ⟨fun q => ?_, fun q => (h.1 s2 j2 q1 q2).2 (by unfold dn2 at q ⊢; omega)⟩, h.2⟩
  by_cases e : s2 = s
  · subst e
    rw [(h.1 s2 j2 q1 q2).2 (by unfold dn2; omega)]
    unfold rnv
    rw [if_pos hA]
  · exact (h.1 s2 j2 q1 q2).1 (by unfold dn2 at q ⊢; omega)
theorem RNX_step {ct : Nat → Nat → Nat} {mem m : TMem} {s j : Nat} (hs : s < 6) (hA : ¬ sm (ct s) 8 = 0) (h : RNX ct mem s j m) : RNX ct mem s (j + 1) (mset m (4 + s) j (nI (50 * (sm (ct s) 8 - ct s j) / sm (ct s) 8))) := by
  refine ⟨fun s2 j2 q1 q2 => ?_, fun o k ho => by rw [ms_ne (by omega)]; exact h.2 o k ho⟩
  by_cases e : s2 = s ∧ j2 = j
  · obtain ⟨rfl, rfl⟩ := e
    refine ⟨fun _ => ?_, fun q => absurd (Or.inr ⟨rfl, by omega⟩) q⟩
    rw [ms_eq]
    unfold rnv
    rw [if_neg hA]
  · have r : mset m (4 + s) j (nI (50 * (sm (ct s) 8 - ct s j) / sm (ct s) 8)) (4 + s2) j2 = m (4 + s2) j2 := by
      by_cases es : s2 = s
      · subst es; rw [ms_sl (by omega)]
      · rw [ms_ne (by omega)]
    rw [r]
    exact ⟨fun q => (h.1 s2 j2 q1 q2).1 (by unfold dn2 at q ⊢; omega), fun q => (h.1 s2 j2 q1 q2).2 (by unfold dn2 at q ⊢; omega)⟩
set_option maxRecDepth 100000 in
theorem C_setCosts (l : Launch) {mem : TMem} {ct : Nat → Nat → Nat} (hB : ∀ s, s < 6 → sm (ct s) 8 ≤ 20480) (hct : ∀ s j, s < 6 → j < 8 → mem (158 + s) j = nI (ct s j)) : TMi l i_X4_setCosts 1 23 [.inr 156, .inr 1] mem (fun x m => x = nI (rnc ct 6) ∧ RNX ct mem 6 0 m) := by
  refine tw_met (by decide) (Nat.le_of_ble_eq_true rfl) (fun κ hl hC hT => ?_)
  have inner : ∀ s, s < 6 → ¬ sm (ct s) 8 = 0 → (∀ m, RNX ct mem (s + 1) 0 m → WT κ 4 [some (.inr 156), some (.inr 1), some (.inl (nI (rnc ct s) + 1)), some (.inl (nI s + 1)), none, none] [] m) → ∀ i j m, i + j = 8 → RNX ct mem s j m → WT κ 25 [some (.inr 156), some (.inr 1), some (.inl (nI (rnc ct s))), some (.inl (nI s)), some (.inl (nI (sm (ct s) 8))), some (.inl (nI j))] [] m := by
    intro s hs hA next i
    have hAB := hB s hs
    induction i with
    | zero =>
      intro j m hj hm
      have : j = 8 := by omega
      subst this
      exact K_X4_setCosts_25 hC hT m _ _ _ _ ⟨fun _ => next m (RNX_up hm), fun q => absurd (by decide) q⟩
    | succ i ih =>
      intro j m hj hm
      have hc : ct s j ≤ sm (ct s) 8 := sm_le (by omega)
      refine K_X4_setCosts_25 hC hT m _ _ _ _ ⟨fun q => absurd q (nI_ge (b := 8) (by omega) (by omega)), fun _ => ⟨vp_in_nI hs (by omega), vp_in_nI (by omega) (by omega), nI_ne0 (by omega) (by omega), ⟨vp_in_nI hs (by omega), vp_in_nI (by omega) (by omega)⟩, ?_⟩⟩
      rw [nI_clamp (by omega), nI_clamp (by omega), hm.2 (158 + s) j (by omega), hct s j hs (by omega), rn_val hAB hA hc, nI_1]
      exact ih (j + 1) _ (by omega) (RNX_step hs hA hm)
  have outer : ∀ i s m, i + s = 6 → RNX ct mem s 0 m → WT κ 4 [some (.inr 156), some (.inr 1), some (.inl (nI (rnc ct s))), some (.inl (nI s)), none, none] [] m := by
    intro i
    induction i with
    | zero =>
      intro s m hs hm
      have : s = 6 := by omega
      subst this
      exact K_X4_setCosts_4 hC hT m _ _ ⟨fun _ => ⟨_, rfl, rfl, hm⟩, fun q => absurd (by decide) q⟩
    | succ i ih =>
      intro s m hs hm
      have hs6 : s < 6 := by omega
      have hAB := hB s hs6
      refine K_X4_setCosts_4 hC hT m _ _ ⟨fun q => absurd q (nI_ge (b := 6) (by omega) (by omega)), fun _ => ⟨_, C_allOf _ (ct := ct) hs6 (fun j hj => by rw [hm.2 (158 + s) j (by omega)]; exact hct s j hs6 hj), ?_⟩⟩
      rintro x m2 ⟨rfl, rfl⟩
      rw [le0 (by omega)]
      refine ⟨fun q => ?_, fun q => ?_⟩
      · have := ih (s + 1) m2 (by omega) (RNX_skip q hm)
        rw [show rnc ct (s + 1) = rnc ct s by unfold rnc; show sm _ s + (if sm (ct s) 8 = 0 then 0 else 1) = _; rw [if_pos q]; rfl] at this
        rw [nI_1]
        exact this
      · refine inner s hs6 q (fun m3 h3 => ?_) 8 0 m2 (by omega) hm
        have := ih (s + 1) m3 (by omega) h3
        rw [show rnc ct (s + 1) = rnc ct s + 1 by unfold rnc; show sm _ s + (if sm (ct s) 8 = 0 then 0 else 1) = _; rw [if_neg q]] at this
        rw [nI_1, nI_1]
        exact this
  exact K_X4_setCosts_0 hC hT mem (outer 6 0 mem (by omega) ⟨fun s2 j2 q1 q2 => ⟨fun q => absurd q (by unfold dn2; omega), fun _ => rfl⟩, fun _ _ _ => rfl⟩)
