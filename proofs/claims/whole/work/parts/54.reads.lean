/-! SIMULATIONS of the readings -/
theorem fin_sc {k : Nat} {mem m1 m2 : TMem} (h : INV k mem) (hc : R_ca m1) (h1 : ∀ o j, ¬ (40 ≤ o ∧ o < 106) → m1 o j = mem o j) (h2 : ∀ o j, o < 201 → ¬ (o = 187 ∧ j = 26) → ¬ o = 155 → m2 o j = m1 o j) : INV (k + 1) m2 := by
  refine INV_sc h (fun o j q => ?_) ?_
  · unfold scr at q
    rw [h2 o j (by omega) (by omega) (by omega), h1 o j (by omega)]
  · have g : ∀ o, o < 155 → m2 o = m1 o := fun o q => funext fun j => h2 o j (by omega) (by omega) (by omega)
    exact hc.of (dat_sc (fun o q => g o (by omega))) (by rw [g 40 (by omega)]) (by rw [g 40 (by omega)]) (by rw [g 104 (by omega)]) (g 105 (by omega)) (g 42 (by omega))
theorem ca_of {mem m : TMem} (hc : R_ca m) (h6 : m 40 6 = 1) (ho : ∀ o j, ¬ (40 ≤ o ∧ o < 106) → m o j = mem o j) : m 40 5 = nI (LSd (dat mem)) ∧ (LSd (dat mem) < 1000000 → (m 104 1 = nI (ROW (dat mem)).length ∧ 1 ≤ (ROW (dat mem)).length ∧ (ROW (dat mem)).length ≤ 40 ∧ (∀ i, i < (ROW (dat mem)).length → (ROW (dat mem)).getD i 0 < dW (dat mem) ∧ m 105 i = nI ((ROW (dat mem)).getD i 0)) ∧ ∀ w, w < dW (dat mem) → m 42 w = nI (AH (dat mem) (dn (dat mem)) w))) := by
  have e : dat m = dat mem := dat_sc (fun o q => funext fun j => ho o j (by omega))
  rcases hc with z | ⟨-, z⟩
  · rw [h6] at z; exact absurd z (by decide)
  · rw [e] at z; exact z
theorem DM_f {mem m : TMem} {d : PD} (hM : DM mem d) (ho : ∀ o j, ¬ (40 ≤ o ∧ o < 106) → m o j = mem o j) : DM m d :=
  hM.of (ho 187 0 (by omega)) (ho 187 3 (by omega)) (ho 187 4 (by omega)) (fun o q1 q2 => funext fun j => ho o j (by omega))
theorem lsB_1 {d : PD} (h : LSd d < 1000000) : lsB d = 1 := if_pos h
theorem lsB_0 {d : PD} (h : ¬ LSd d < 1000000) : lsB d = 0 := if_neg h
set_option maxRecDepth 100000 in
theorem S_least (l : Launch) (k : Nat) (mem : TMem) (h : INV k mem) : SIM l i_X10_least 6 153 i_X11_least 5 116 [] (INV (k + 1)) mem := by
  have hM := INV_DM h
  have hLf := LSd_far (INV_DX h)
  refine ⟨fun x m => x = (if LSd (dat mem) < 1000000 then nI (LSd (dat mem)) else -3) ∧ R_ca m ∧ ∀ o j, ¬ (40 ≤ o ∧ o < 106) → m o j = mem o j, tw_met (by decide) (Nat.le_of_ble_eq_true rfl) (fun κ hl hC hT => K_X10_least_0 hC hT mem ⟨_, C_find6 _ h, ?_⟩), ?_⟩
  · rintro x m ⟨rfl, h6, hc, ho⟩
    obtain ⟨c1, c2⟩ := ca_of hc h6 ho
    rw [c1]
    by_cases q : LSd (dat mem) < 1000000
    · rw [lsB_1 q]
      exact ⟨fun z => absurd z (by decide), fun _ => ⟨_, rfl, by rw [if_pos q], hc, ho⟩⟩
    · rw [lsB_0 q]
      exact ⟨fun _ => ⟨_, rfl, by rw [if_neg q], hc, ho⟩, fun z => absurd rfl z⟩
  rintro x m1 ⟨rfl, hc, ho⟩
  refine ⟨fun y m => y = (if LSd (dat mem) < 1000000 then nI (LSd (dat mem)) else -3) ∧ ∀ o j, o < 201 → m o j = m1 o j, tw_met (by decide) (Nat.le_of_ble_eq_true rfl) (fun κ hl hC hT => K_X11_least_0 hC hT m1 ⟨_, C_leastNow _ (DM_f hM ho), ?_⟩), ?_⟩
  · rintro y m ⟨rfl, r1, r2⟩
    rw [show (1000000 : Int32) = nI 1000000 from rfl, nI_eq (by omega) (by omega)]
    exact ⟨fun q => ⟨_, rfl, by rw [if_neg (by omega)], r2⟩, fun q => ⟨_, rfl, by rw [if_pos (by omega)], r2⟩⟩
  rintro y m2 ⟨rfl, r2⟩
  exact ⟨rfl, fin_sc h hc ho (fun o j q1 _ _ => r2 o j q1)⟩
set_option maxRecDepth 100000 in
theorem S_rowSize (l : Launch) (k : Nat) (mem : TMem) (h : INV k mem) : SIM l i_X10_rowSize 6 153 i_X11_rowSize 6 140 [] (INV (k + 1)) mem := by
  have hM := INV_DM h
  refine ⟨fun x m => x = (if LSd (dat mem) < 1000000 then nI (ROW (dat mem)).length else -3) ∧ R_ca m ∧ ∀ o j, ¬ (40 ≤ o ∧ o < 106) → m o j = mem o j, tw_met (by decide) (Nat.le_of_ble_eq_true rfl) (fun κ hl hC hT => K_X10_rowSize_0 hC hT mem ⟨_, C_find6 _ h, ?_⟩), ?_⟩
  · rintro x m ⟨rfl, h6, hc, ho⟩
    obtain ⟨c1, c2⟩ := ca_of hc h6 ho
    by_cases q : LSd (dat mem) < 1000000
    · rw [lsB_1 q, (c2 q).1]
      exact ⟨fun z => absurd z (by decide), fun _ => ⟨_, rfl, by rw [if_pos q], hc, ho⟩⟩
    · rw [lsB_0 q]
      exact ⟨fun _ => ⟨_, rfl, by rw [if_neg q], hc, ho⟩, fun z => absurd rfl z⟩
  rintro x m1 ⟨rfl, hc, ho⟩
  refine ⟨fun y m => y = (if LSd (dat mem) < 1000000 then nI (ROW (dat mem)).length else -3) ∧ ∀ o j, o < 201 → ¬ (o = 187 ∧ j = 26) → m o j = m1 o j, tw_met (by decide) (Nat.le_of_ble_eq_true rfl) (fun κ hl hC hT => K_X11_rowSize_0 hC hT m1 ⟨_, C_findRowM _ (DM_f hM ho), ?_⟩), ?_⟩
  · rintro y m ⟨rfl, r1, r2, r3⟩
    by_cases q : LSd (dat mem) < 1000000
    · rw [lsB_1 q, (r1 q).1]
      exact ⟨fun z => absurd z (by decide), fun _ => ⟨_, rfl, by rw [if_pos q], r3⟩⟩
    · rw [lsB_0 q]
      exact ⟨fun _ => ⟨_, rfl, by rw [if_neg q], r3⟩, fun z => absurd rfl z⟩
  rintro y m2 ⟨rfl, r3⟩
  exact ⟨rfl, fin_sc h hc ho (fun o j q1 q2 _ => r3 o j q1 q2)⟩
def rwA (d : PD) (p : Int32) : Int32 := if LSd d < 1000000 then (if F_X10_within p 0 (nI (ROW d).length - 1) = 0 then -2 else nI ((ROW d).getD p.toNatClampNeg 0)) else -3
set_option maxRecDepth 100000 in
theorem S_rowAt (l : Launch) (k : Nat) (mem : TMem) (h : INV k mem) (p1 : Int32) : SIM l i_X10_rowAt 6 153 i_X11_rowAt 6 140 [.inl p1] (INV (k + 1)) mem := by
  have hM := INV_DM h
  have hX := INV_DX h
  have hlw : ∀ w v, w < dW (dat mem) → v < dwy (dat mem) w → 0 < dln (dat mem) w v := fun w v h1 h2 => (hX.ln w v h1 h2).1
  refine ⟨fun x m => x = rwA (dat mem) p1 ∧ R_ca m ∧ ∀ o j, ¬ (40 ≤ o ∧ o < 106) → m o j = mem o j, tw_met (by decide) (Nat.le_of_ble_eq_true rfl) (fun κ hl hC hT => K_X10_rowAt_0 hC hT mem _ ⟨_, C_find6 _ h, ?_⟩), ?_⟩
  · rintro x m ⟨rfl, h6, hc, ho⟩
    obtain ⟨c1, c2⟩ := ca_of hc h6 ho
    unfold rwA
    by_cases q : LSd (dat mem) < 1000000
    · obtain ⟨z1, z2, z3, z4, z5⟩ := c2 q
      rw [lsB_1 q, z1]
      refine ⟨fun z => absurd z (by decide), fun _ => ⟨fun z => ⟨_, rfl, by rw [if_pos q, if_pos z], hc, ho⟩, fun z => ?_⟩⟩
      obtain ⟨i, hi, rfl⟩ := wi_word (by omega) z
      unfold G_X7_at_104 F_X7_at_104
      rw [z1, if_neg (nI_pos (by omega)), if_neg (nI_ge hi (by omega)), nI_clamp (n := i) (by omega), (z4 i hi).2]
      exact ⟨fun _ _ => vp_in_nI (by omega) (by omega), _, rfl, by rw [if_pos q, if_neg z], hc, ho⟩
    · rw [lsB_0 q]
      exact ⟨fun _ => ⟨_, rfl, by rw [if_neg q], hc, ho⟩, fun z => absurd rfl z⟩
  rintro x m1 ⟨rfl, hc, ho⟩
  refine ⟨fun y m => y = rwA (dat mem) p1 ∧ ∀ o j, o < 201 → ¬ (o = 187 ∧ j = 26) → m o j = m1 o j, tw_met (by decide) (Nat.le_of_ble_eq_true rfl) (fun κ hl hC hT => K_X11_rowAt_0 hC hT m1 _ ⟨_, C_findRowM _ (DM_f hM ho), ?_⟩), ?_⟩
  · rintro y m ⟨rfl, r1, r2, r3⟩
    unfold rwA
    by_cases q : LSd (dat mem) < 1000000
    · obtain ⟨z1, z2⟩ := r1 q
      have hok := ROW_ok hlw q
      have h40 := hX.n40
      rw [lsB_1 q, z1, in_eq]
      refine ⟨fun z => absurd z (by decide), fun _ => ⟨fun z => ⟨_, rfl, by rw [if_pos q, if_pos z], r3⟩, fun z => ?_⟩⟩
      obtain ⟨i, hi, rfl⟩ := wi_word (by omega) z
      rw [nI_clamp (n := i) (by omega), z2 i hi]
      exact ⟨vp_in_nI (by omega) (by omega), _, rfl, by rw [if_pos q, if_neg z], r3⟩
    · rw [lsB_0 q]
      exact ⟨fun _ => ⟨_, rfl, by rw [if_neg q], r3⟩, fun z => absurd rfl z⟩
  rintro y m2 ⟨rfl, r3⟩
  exact ⟨rfl, fin_sc h hc ho (fun o j q1 q2 _ => r3 o j q1 q2)⟩
def bsF (d : PD) (x : Nat) : Nat := if nI x = nI ((ROW d).getD 0 0) then 1000000 else dJ d 0 (x + 1) + AH d (dn d) x
def bsA (d : PD) : Int32 := if LSd d < 1000000 then (if mn (dW d) (bsF d) = 1000000 then -1 else nI (mn (dW d) (bsF d))) else -3
set_option maxRecDepth 100000 in
theorem C_another (l : Launch) {mem : TMem} {d : PD} (hd : DX mem d) (hz : mem 104 1 = nI (ROW d).length) (h1 : 1 ≤ (ROW d).length) (h40 : (ROW d).length ≤ 40) (h5 : mem 105 0 = nI ((ROW d).getD 0 0)) (ha : ∀ w, w < dW d → mem 42 w = nI (AH d (dn d) w)) : TMi l i_X6_cheapestWithAnotherFirst 3 71 [.inr 40, .inr 10] mem (fun x m => x = nI (mn (dW d) (bsF d)) ∧ m = mem) := by
  refine tw_met (by decide) (Nat.le_of_ble_eq_true rfl) (fun κ hl hC hT => ?_)
  have e : F_X7_at_104 mem 0 = nI ((ROW d).getD 0 0) := by
    unfold F_X7_at_104
    rw [if_neg (by decide), hz, if_neg (nI_nle (by omega) (by omega))]
    exact h5
  have cb := C_cheapestBehind κ.1.2.1 (a := 0) (f := 0) (p3 := nI ((ROW d).getD 0 0)) (g := fun x => AH d (dn d) x) hd (by omega) (by omega) (fun x hx => ⟨ha x hx, AH_far _ _ _⟩)
  refine K_X6_cheapestWithAnotherFirst_0 hC hT mem ⟨fun _ _ => vp_in_nI (n := 0) (by omega) (by omega), ?_⟩
  rw [e]
  exact ⟨_, cb, fun x m z => ⟨_, rfl, z⟩⟩
set_option maxRecDepth 100000 in
theorem S_beside (l : Launch) (k : Nat) (mem : TMem) (h : INV k mem) : SIM l i_X10_beside 6 153 i_X11_beside 6 140 [] (INV (k + 1)) mem := by
  have hM := INV_DM h
  have hX := INV_DX h
  have h40 := hX.n40
  have h8 := hX.w8
  have hmf := mn_far (dW (dat mem)) (bsF (dat mem))
  refine ⟨fun x m => x = bsA (dat mem) ∧ R_ca m ∧ ∀ o j, ¬ (40 ≤ o ∧ o < 106) → m o j = mem o j, tw_met (by decide) (Nat.le_of_ble_eq_true rfl) (fun κ hl hC hT => K_X10_beside_0 hC hT mem ⟨_, C_find6 _ h, ?_⟩), ?_⟩
  · rintro x m ⟨rfl, h6, hc, ho⟩
    obtain ⟨c1, c2⟩ := ca_of hc h6 ho
    unfold bsA
    by_cases q : LSd (dat mem) < 1000000
    · obtain ⟨z1, z2, z3, z4, z5⟩ := c2 q
      rw [lsB_1 q]
      refine ⟨fun z => absurd z (by decide), fun _ => ⟨_, C_another _ (d := dat mem) (hX.of (fun o q => funext fun j => ho o j (by omega))) z1 z2 z3 (z4 0 (by omega)).2 z5, ?_⟩⟩
      rintro y m2 ⟨rfl, rfl⟩
      rw [show (1000000 : Int32) = nI 1000000 from rfl, nI_leI (by omega) (by omega)]
      exact ⟨fun z => ⟨_, rfl, by rw [if_pos q, if_pos (by omega)], hc, ho⟩, fun z => ⟨_, rfl, by rw [if_pos q, if_neg (by omega)], hc, ho⟩⟩
    · rw [lsB_0 q]
      exact ⟨fun _ => ⟨_, rfl, by rw [if_neg q], hc, ho⟩, fun z => absurd rfl z⟩
  rintro x m1 ⟨rfl, hc, ho⟩
  have hlw : ∀ w v, w < dW (dat mem) → v < dwy (dat mem) w → 0 < dln (dat mem) w v := fun w v h1 h2 => (hX.ln w v h1 h2).1
  refine ⟨fun y m => y = bsA (dat mem) ∧ ∀ o j, o < 201 → ¬ (o = 187 ∧ j = 26) → m o j = m1 o j, tw_met (by decide) (Nat.le_of_ble_eq_true rfl) (fun κ hl hC hT => K_X11_beside_0 hC hT m1 ⟨_, C_findRowM _ (DM_f hM ho), ?_⟩), ?_⟩
  · rintro y m ⟨rfl, r1, r2, r3⟩
    unfold bsA
    by_cases q : LSd (dat mem) < 1000000
    · obtain ⟨z1, z2⟩ := r1 q
      have hok := ROW_ok hlw q
      have hdm : DM m (dat mem) := (DM_f hM ho).of (r3 187 0 (by omega) (by omega)) (r3 187 3 (by omega) (by omega)) (r3 187 4 (by omega) (by omega)) (fun o q1 q2 => funext fun j => r3 o j (by omega) (by omega))
      rw [lsB_1 q]
      refine ⟨fun z => absurd z (by decide), fun _ => ?_⟩
      have key : ∀ c w, c + w = dW (dat mem) → WT κ 15 [some (.inr 187), some (.inl (nI (mn w (bsF (dat mem))))), some (.inl (nI w))] [] m := by
        intro c
        induction c with
        | zero =>
          intro w hc2
          have : w = dW (dat mem) := by omega
          subst this
          refine K_X11_beside_15 hC hT m _ _ ?_
          rw [hdm.wd, show (1000000 : Int32) = nI 1000000 from rfl, nI_eq (by omega) (by omega)]
          exact ⟨fun _ => ⟨fun z => ⟨_, rfl, by unfold bsA; rw [if_pos q, if_pos z], r3⟩, fun z => ⟨_, rfl, by unfold bsA; rw [if_pos q, if_neg z], r3⟩⟩, fun z => absurd (nI_le (Nat.le_refl _) (by omega)) z⟩
        | succ c ih =>
          intro w hc2
          have nx := ih (w + 1) (by omega)
          have hmw := mn_far w (bsF (dat mem))
          refine K_X11_beside_15 hC hT m _ _ ?_
          rw [hdm.wd, z2 0 (by omega), nI_1 w]
          refine ⟨fun z => absurd z (nI_ge (by omega) (by omega)), fun _ => ⟨fun z => ?_, fun z => ⟨_, C_withNext _ (i := 0) (a := 0) hdm (by omega) (by omega) (by omega) r2.1 (fun j q1 q2 => ?_), ?_⟩⟩⟩
          · have e : mn (w + 1) (bsF (dat mem)) = mn w (bsF (dat mem)) := by
              show min (mn w _) (bsF (dat mem) w) = _
              rw [show bsF (dat mem) w = 1000000 from if_pos z]
              omega
            rw [e] at nx
            exact nx
          · have := r2.2 j (w + 1) q2 (by omega)
            rw [RE_s] at this
            exact this
          · rintro x m2 ⟨rfl, rfl⟩
            have hsf := sa_far (dJ (dat mem) 0 (w + 1)) (AH (dat mem) (dn (dat mem) - 0) w)
            have e : mn (w + 1) (bsF (dat mem)) = min (mn w (bsF (dat mem))) (sa (dJ (dat mem) 0 (w + 1)) (AH (dat mem) (dn (dat mem) - 0) w)) := by
              show min (mn w _) (bsF (dat mem) w) = _
              rw [show bsF (dat mem) w = dJ (dat mem) 0 (w + 1) + AH (dat mem) (dn (dat mem)) w from if_neg z, Nat.sub_zero]
              unfold sa
              omega
            rw [lesser_nI (by omega) (by omega), ← e]
            exact nx
      exact key (dW (dat mem)) 0 (by omega)
    · rw [lsB_0 q]
      exact ⟨fun _ => ⟨_, rfl, by rw [if_neg q], r3⟩, fun z => absurd rfl z⟩
  rintro y m2 ⟨rfl, r3⟩
  exact ⟨rfl, fin_sc h hc ho (fun o j q1 q2 _ => r3 o j q1 q2)⟩
