/-! EDITS -/
def EDn (t r : Nat → Nat) (i : Nat) (p : Nat → Nat) : Nat → Nat
  | 0 => i + 1
  | j + 1 => min (p j + (if t i = r j then 0 else 1)) (1 + min (p (j + 1)) (EDn t r i p j))
def ED (t r : Nat → Nat) : Nat → Nat → Nat
  | 0 => fun j => j
  | i + 1 => EDn t r i (ED t r i)
theorem ED_z (t r : Nat → Nat) (j : Nat) : ED t r 0 j = j := rfl
theorem ED_0 (t r : Nat → Nat) (i : Nat) : ED t r (i + 1) 0 = i + 1 := rfl
theorem ED_i0 (t r : Nat → Nat) (i : Nat) : ED t r i 0 = i := by cases i <;> rfl
theorem ED_s (t r : Nat → Nat) (i j : Nat) : ED t r (i + 1) (j + 1) = min (ED t r i j + (if t i = r j then 0 else 1)) (1 + min (ED t r i (j + 1)) (ED t r (i + 1) j)) := rfl
theorem ED_far (t r : Nat → Nat) : ∀ i j, ED t r i j ≤ i + j
  | 0, j => by rw [ED_z]; omega
  | i + 1, 0 => by rw [ED_0]; omega
  | i + 1, j + 1 => by
    have := ED_far t r (i + 1) j
    rw [ED_s]
    omega
set_option maxRecDepth 100000 in
theorem C_fewest (l : Launch) {mem : TMem} {t r : Nat → Nat} {T N : Nat} (hT12 : T ≤ 12) (hN : N ≤ 40) (h1 : mem 106 1 = nI T) (h2 : mem 104 1 = nI N) (ht : ∀ i, i < T → mem 107 i = nI (t i) ∧ t i < 8) (hr : ∀ j, j < N → mem 105 j = nI (r j) ∧ r j < 8) : TMi l i_X1_fewest 1 21 [.inr 154, .inr 106, .inr 104] mem (fun x m => x = nI (ED t r T N) ∧ ∀ o j, ¬ o = 155 → m o j = mem o j) := by
  refine tw_met (by decide) (Nat.le_of_ble_eq_true rfl) (fun κ hl hC hT => ?_)
  have inner : ∀ i, i < T → (∀ m, (∀ q, q ≤ N → m 155 q = nI (ED t r (i + 1) q)) → (∀ o j, ¬ o = 155 → m o j = mem o j) → WT κ 37 [some (.inr 154), some (.inr 106), some (.inr 104), some (.inl (nI N)), some (.inl (nI (i + 1) + 1)), none, none, none] [] m) → ∀ c j m, c + j = N → (∀ q, q ≤ N → (q ≤ j → m 155 q = nI (ED t r (i + 1) q)) ∧ (j < q → m 155 q = nI (ED t r i q))) → (∀ o j, ¬ o = 155 → m o j = mem o j) → WT κ 65 [some (.inr 154), some (.inr 106), some (.inr 104), some (.inl (nI N)), some (.inl (nI (i + 1))), some (.inl (nI (ED t r i j))), some (.inl (nI (j + 1))), none] [] m := by
    intro i hi next c
    induction c with
    | zero =>
      intro j m hc hm ho
      exact K_X1_fewest_65 hC hT m _ _ _ _ ⟨fun _ => next m (fun q hq => (hm q hq).1 (by omega)) ho, fun q => absurd (nI_lt (by omega) (by omega)) q⟩
    | succ c ih =>
      intro j m hc hm ho
      have f1 := ED_far t r i j
      have f2 := ED_far t r i (j + 1)
      have f3 := ED_far t r (i + 1) j
      obtain ⟨t1, t2⟩ := ht i hi
      obtain ⟨r1, r2⟩ := hr j (by omega)
      have eT : F_X7_at_106 m (nI i) = nI (t i) := by
        unfold F_X7_at_106
        rw [if_neg (nI_pos (by omega)), ho 106 1 (by omega), h1, if_neg (nI_ge hi (by omega)), nI_clamp (by omega), ho 107 i (by omega), t1]
      have eR : F_X7_at_104 m (nI j) = nI (r j) := by
        unfold F_X7_at_104
        rw [if_neg (nI_pos (by omega)), ho 104 1 (by omega), h2, if_neg (nI_ge (show j < N by omega) (by omega)), nI_clamp (by omega), ho 105 j (by omega), r1]
      have nx : ∀ x, x = nI (ED t r (i + 1) (j + 1)) → WT κ 65 [some (.inr 154), some (.inr 106), some (.inr 104), some (.inl (nI N)), some (.inl (nI (i + 1))), some (.inl (nI (ED t r i (j + 1)))), some (.inl (nI (j + 1 + 1))), none] [] (mset m 155 (j + 1) x) := fun x hx => by
        refine ih (j + 1) _ (by omega) (fun q hq => ?_) (fun o k q => by rw [ms_ne q]; exact ho o k q)
        by_cases e : q = j + 1
        · subst e
          rw [ms_eq]
          exact ⟨fun _ => hx, fun z => by omega⟩
        · rw [ms_sl e]
          exact ⟨fun z => (hm q hq).1 (by omega), fun z => (hm q hq).2 (by omega)⟩
      refine K_X1_fewest_65 hC hT m _ _ _ _ ⟨fun q => absurd q (nI_nlt (by omega) (by omega)), fun _ => ?_⟩
      rw [nI_pred, nI_pred, eT, eR, nI_clamp (n := j + 1) (by omega), nI_clamp (n := j) (by omega), (hm (j + 1) (by omega)).2 (by omega), (hm j (by omega)).1 (by omega), nI_1 (j + 1), nI_eq (by omega) (by omega), imin_nI (by omega) (by omega), show (1 : Int32) = nI 1 from rfl, nI_add, nI_add]
      refine ⟨fun _ _ => vp_in_nI (by omega) (by omega), fun _ _ => vp_in_nI (by omega) (by omega), fun q => ⟨vp_in_nI (by omega) (by omega), vp_in_nI (by omega) (by omega), nx _ ?_⟩, fun q => ⟨vp_in_nI (by omega) (by omega), vp_in_nI (by omega) (by omega), nx _ ?_⟩⟩
      · rw [imin_nI (by omega) (by omega), ED_s, if_pos q]
        rfl
      · rw [imin_nI (by omega) (by omega), ED_s, if_neg q]
  have outer : ∀ c i m, c + i = T → (∀ q, q ≤ N → m 155 q = nI (ED t r i q)) → (∀ o j, ¬ o = 155 → m o j = mem o j) → WT κ 37 [some (.inr 154), some (.inr 106), some (.inr 104), some (.inl (nI N)), some (.inl (nI (i + 1))), none, none, none] [] m := by
    intro c
    induction c with
    | zero =>
      intro i m hc hm ho
      have : i = T := by omega
      subst this
      refine K_X1_fewest_37 hC hT m _ _ ?_
      rw [ho 106 1 (by omega), h1, nI_clamp (n := N) (by omega), hm N (Nat.le_refl _)]
      exact ⟨fun _ => ⟨vp_in_nI (by omega) (by omega), _, rfl, rfl, ho⟩, fun q => absurd (nI_lt (by omega) (by omega)) q⟩
    | succ c ih =>
      intro i m hc hm ho
      refine K_X1_fewest_37 hC hT m _ _ ?_
      rw [ho 106 1 (by omega), h1, hm 0 (by omega)]
      refine ⟨fun q => absurd q (nI_nlt (by omega) (by omega)), fun _ => inner i (by omega) (fun m2 z1 z2 => by rw [nI_1]; exact ih (i + 1) m2 (by omega) z1 z2) N 0 _ (by omega) (fun q hq => ?_) (fun o k q => by rw [ms_ne q]; exact ho o k q)⟩
      by_cases e : q = 0
      · subst e
        rw [ms_eq]
        exact ⟨fun _ => rfl, fun z => by omega⟩
      · rw [ms_sl e]
        exact ⟨fun z => by omega, fun _ => hm q hq⟩
  have init : ∀ c j m, c + j = N + 1 → (∀ q, q < j → m 155 q = nI q) → (∀ o j, ¬ o = 155 → m o j = mem o j) → WT κ 13 [some (.inr 154), some (.inr 106), some (.inr 104), some (.inl (nI N)), some (.inl (nI j)), none, none, none] [] m := by
    intro c
    induction c with
    | zero =>
      intro j m hc hm ho
      exact K_X1_fewest_13 hC hT m _ _ ⟨fun _ => outer T 0 m (by omega) (fun q hq => hm q (by omega)) ho, fun q => absurd (nI_lt (by omega) (by omega)) q⟩
    | succ c ih =>
      intro j m hc hm ho
      refine K_X1_fewest_13 hC hT m _ _ ⟨fun q => absurd q (nI_nlt (by omega) (by omega)), fun _ => ⟨vp_in_nI (by omega) (by omega), ?_⟩⟩
      rw [nI_clamp (n := j) (by omega), nI_1 j]
      refine ih (j + 1) _ (by omega) (fun q hq => ?_) (fun o k q => by rw [ms_ne q]; exact ho o k q)
      by_cases e : q = j
      · subst e; rw [ms_eq]
      · rw [ms_sl e]; exact hm q (by omega)
  refine K_X1_fewest_0 hC hT mem ?_
  rw [h2, show (40 : Int32) = nI 40 from rfl, imin_nI (by omega) (by omega), show min N 40 = N by omega]
  exact init (N + 1) 0 mem (by omega) (fun q hq => by omega) (fun _ _ _ => rfl)
def EDT (t r : Nat → Nat) (N i j : Nat) (m : TMem) : Prop := ∀ a b, b ≤ N → (a < i ∨ (a = i ∧ b < j)) → m 209 (41 * a + b) = nI (ED t r a b)
set_option maxRecDepth 100000 in
theorem C_editsM (l : Launch) {mem : TMem} {d : PD} {t : Nat → Nat} {T : Nat} (hd : DM mem d) (hT12 : T ≤ 12) (h9 : mem 187 9 = nI T) (ht : ∀ i, i < T → mem 194 i = nI (t i) ∧ t i < 8) : TMi l i_X11_edits 6 140 [.inr 187] mem (fun y m => y = (if LSd d < 1000000 then nI (ED t (fun j => (ROW d).getD j 0) T (ROW d).length) else -3) ∧ ∀ o j, o < 201 → ¬ (o = 187 ∧ j = 26) → m o j = mem o j) := by
  refine tw_met (by decide) (Nat.le_of_ble_eq_true rfl) (fun κ hl hC hT => ?_)
  have h40 := hd.n40
  have h8 := hd.w8
  have hlw : ∀ w v, w < dW d → v < dwy d w → 0 < dln d w v := fun w v h1 h2 => (hd.ln w v h1 h2).1
  refine K_X11_edits_0 hC hT mem ⟨_, C_findRowM _ hd, ?_⟩
  rintro x m0 ⟨rfl, r1, r2, r3⟩
  by_cases hL : LSd d < 1000000
  · obtain ⟨z1, z2⟩ := r1 hL
    obtain ⟨k1, k2, k3⟩ := ROW_ok hlw hL
    rw [lsB_1 hL]
    refine ⟨fun z => absurd z (by decide), fun _ => ?_⟩
    generalize hN : (ROW d).length = N at *
    have hr : ∀ j, j < N → m0 205 j = nI ((ROW d).getD j 0) ∧ (ROW d).getD j 0 < 8 := fun j hj => ⟨z2 j hj, by have := k3 j hj; omega⟩
    generalize hrr : (fun j => (ROW d).getD j 0) = r
    have hr : ∀ j, j < N → m0 205 j = nI (r j) ∧ r j < 8 := fun j hj => by rw [← hrr]; exact hr j hj
    have h9 : m0 187 9 = nI T := by rw [r3 187 9 (by omega) (by omega)]; exact h9
    have ht : ∀ i, i < T → m0 194 i = nI (t i) ∧ t i < 8 := fun i hi => by rw [r3 194 i (by omega) (by omega)]; exact ht i hi
    have e41 : ∀ a b : Nat, (41 : Int32) * nI a + nI b = nI (41 * a + b) := fun a b => by rw [show (41 : Int32) = nI 41 from rfl, pk_mul, nI_add]
    have inner : ∀ i, i ≤ T → (∀ m, EDT t r N (i + 1) 0 m → (∀ o k, ¬ o = 209 → m o k = m0 o k) → WT κ 12 [some (.inr 187), some (.inl (nI i + 1)), none, none] [] m) → ∀ c j m, c + j = N + 1 → EDT t r N i j m → (∀ o k, ¬ o = 209 → m o k = m0 o k) → WT κ 22 [some (.inr 187), some (.inl (nI i)), some (.inl (nI j)), none] [] m := by
      intro i hi next c
      induction c with
      | zero =>
        intro j m hc hm ho
        refine K_X11_edits_22 hC hT m _ _ ⟨fun _ => next m (fun a b q1 q2 => hm a b q1 (by omega)) ho, fun q => absurd ?_ q⟩
        rw [ho 187 26 (by omega), z1]
        exact nI_lt (by omega) (by omega)
      | succ c ih =>
        intro j m hc hm ho
        have nx : ∀ x, x = nI (ED t r i j) → WT κ 22 [some (.inr 187), some (.inl (nI i)), some (.inl (nI j + 1)), none] [] (mset m 209 (41 * i + j) x) := fun x hx => by
          rw [nI_1]
          refine ih (j + 1) _ (by omega) (fun a b q1 q2 => ?_) (fun o k q => by rw [ms_ne q]; exact ho o k q)
          by_cases e : a = i ∧ b = j
          · obtain ⟨rfl, rfl⟩ := e
            rw [ms_eq]; exact hx
          · rw [ms_sl (by omega)]
            exact hm a b q1 (by omega)
        have n26 : ¬ m 187 26 < nI j := by rw [ho 187 26 (by omega), z1]; exact nI_nlt (by omega) (by omega)
        refine K_X11_edits_22 hC hT m _ _ ⟨fun q => absurd q n26, fun _ => ?_⟩
        rcases Nat.eq_zero_or_pos i with hi0 | hi0
        · subst hi0
          refine ⟨fun _ => ⟨fun _ => ?_, fun q => absurd (by decide) q⟩, fun q => absurd rfl q⟩
          rw [e41, nI_clamp (by omega)]
          exact ⟨vp_in_nI (by omega) (by omega), nx _ rfl⟩
        · obtain ⟨i2, rfl⟩ : ∃ i2, i = i2 + 1 := ⟨i - 1, by omega⟩
          have n0 : ¬ nI (i2 + 1) = 0 := nI_ne0 (by omega) (by omega)
          have n1 : ¬ nI (i2 + 1) ≤ 0 := nI_nle (by omega) (by omega)
          refine ⟨fun q => absurd q n0, fun _ => ?_⟩
          rcases Nat.eq_zero_or_pos j with hj0 | hj0
          · subst hj0
            refine ⟨fun _ => ⟨fun q => absurd q n1, fun _ => ⟨fun _ => ?_, fun q => absurd (by decide) q⟩⟩, fun q => absurd rfl q⟩
            rw [e41, nI_clamp (by omega)]
            exact ⟨vp_in_nI (by omega) (by omega), nx _ rfl⟩
          · obtain ⟨j2, rfl⟩ : ∃ j2, j = j2 + 1 := ⟨j - 1, by omega⟩
            have n2 : ¬ nI (j2 + 1) = 0 := nI_ne0 (by omega) (by omega)
            have n3 : ¬ nI (j2 + 1) ≤ 0 := nI_nle (by omega) (by omega)
            refine ⟨fun q => absurd q n2, fun _ => ⟨fun q => absurd q n1, fun _ => ⟨fun q => absurd q n3, fun _ => ?_⟩⟩⟩
            have f1 := ED_far t r i2 j2
            have f2 := ED_far t r i2 (j2 + 1)
            have f3 := ED_far t r (i2 + 1) j2
            obtain ⟨t1, t2⟩ := ht i2 (by omega)
            obtain ⟨s1, s2⟩ := hr j2 (by omega)
            have e1 : (41 : Int32) * nI (i2 + 1) + nI (j2 + 1) - 1 = nI (41 * (i2 + 1) + j2) := by rw [e41, ← Nat.add_assoc, nI_pred]
            have e2 : (41 : Int32) * nI i2 + nI (j2 + 1) - 1 = nI (41 * i2 + j2) := by rw [e41, ← Nat.add_assoc, nI_pred]
            rw [nI_pred i2, nI_pred j2, e1, e2, e41, e41, nI_clamp (n := 41 * (i2 + 1) + j2) (by omega), nI_clamp (n := 41 * i2 + j2) (by omega), nI_clamp (n := 41 * i2 + (j2 + 1)) (by omega), nI_clamp (n := 41 * (i2 + 1) + (j2 + 1)) (by omega), nI_clamp (n := i2) (by omega), nI_clamp (n := j2) (by omega), ho 194 i2 (by omega), ho 205 j2 (by omega), t1, s1, hm (i2 + 1) j2 (by omega) (by omega), hm i2 (j2 + 1) (by omega) (by omega), hm i2 j2 (by omega) (by omega), nI_eq (by omega) (by omega), lesser_nI (by omega) (by omega), nI_1 (min (ED t r i2 (j2 + 1)) (ED t r (i2 + 1) j2)), show (0 : Int32) = nI 0 from rfl, nI_add, nI_1 (ED t r i2 j2)]
            refine ⟨vp_in_nI (by omega) (by omega), vp_in_nI (by omega) (by omega), vp_in_nI (by omega) (by omega), vp_in_nI (by omega) (by omega), vp_in_nI (by omega) (by omega), fun q => ⟨vp_in_nI (by omega) (by omega), nx _ ?_⟩, fun q => ⟨vp_in_nI (by omega) (by omega), nx _ ?_⟩⟩
            · rw [lesser_nI (by omega) (by omega), ED_s, if_pos q]
              congr 1
              omega
            · rw [lesser_nI (by omega) (by omega), ED_s, if_neg q]
              congr 1
              omega
    have outer : ∀ c i m, c + i = T + 1 → EDT t r N i 0 m → (∀ o k, ¬ o = 209 → m o k = m0 o k) → WT κ 12 [some (.inr 187), some (.inl (nI i)), none, none] [] m := by
      intro c
      induction c with
      | zero =>
        intro i m hc hm ho
        refine K_X11_edits_12 hC hT m _ ?_
        rw [ho 187 9 (by omega), h9, ho 187 26 (by omega), z1, e41, nI_clamp (n := 41 * T + N) (by omega), hm T N (Nat.le_refl _) (by omega)]
        exact ⟨fun _ => ⟨vp_in_nI (by omega) (by omega), _, rfl, by rw [if_pos hL, hrr], fun o j q1 q2 => by rw [ho o j (by omega)]; exact r3 o j q1 q2⟩, fun q => absurd (nI_lt (by omega) (by omega)) q⟩
      | succ c ih =>
        intro i m hc hm ho
        refine K_X11_edits_12 hC hT m _ ?_
        rw [ho 187 9 (by omega), h9]
        exact ⟨fun q => absurd q (nI_nlt (by omega) (by omega)), fun _ => inner i (by omega) (fun m2 q1 q2 => by rw [nI_1]; exact ih (i + 1) m2 (by omega) q1 q2) (N + 1) 0 m (by omega) hm ho⟩
    exact outer (T + 1) 0 m0 (by omega) (fun a b q1 q2 => by omega) (fun _ _ _ => rfl)
  · rw [lsB_0 hL]
    exact ⟨fun _ => ⟨_, rfl, by rw [if_neg hL], r3⟩, fun z => absurd rfl z⟩
set_option maxRecDepth 100000 in
theorem S_edits (l : Launch) (k : Nat) (mem : TMem) (h : INV k mem) : SIM l i_X10_edits 6 153 i_X11_edits 6 140 [] (INV (k + 1)) mem := by
  have hM := INV_DM h
  have hX := INV_DX h
  have h8 := hX.w8
  obtain ⟨T, t, hT12, t1, t2, t3⟩ : ∃ T, ∃ t : Nat → Nat, T ≤ 12 ∧ mem 106 1 = nI T ∧ mem 187 9 = nI T ∧ ∀ i, i < T → mem 107 i = nI (t i) ∧ mem 194 i = nI (t i) ∧ t i < 8 := by
    obtain ⟨n, W, T, a1, a2, a3, a4, a5, a6, a7, a8, a9, b1, b2, b3⟩ := h
    obtain ⟨q1, q2, q3, q4⟩ := a8
    refine ⟨T, fun i => (mem 107 i).toNatClampNeg, q1, q2, q3, fun i hi => ?_⟩
    obtain ⟨w, w1, w2, w3⟩ := q4 i hi
    have := a5.1
    dsimp only
    rw [w2, w3, nI_clamp (by omega)]
    exact ⟨rfl, rfl, by omega⟩
  refine ⟨fun x m => x = (if LSd (dat mem) < 1000000 then nI (ED t (fun j => (ROW (dat mem)).getD j 0) T (ROW (dat mem)).length) else -3) ∧ ∃ m1, R_ca m1 ∧ (∀ o j, ¬ (40 ≤ o ∧ o < 106) → m1 o j = mem o j) ∧ ∀ o j, ¬ o = 155 → m o j = m1 o j, tw_met (by decide) (Nat.le_of_ble_eq_true rfl) (fun κ hl hC hT => K_X10_edits_0 hC hT mem ⟨_, C_find6 _ h, ?_⟩), ?_⟩
  · rintro x m ⟨rfl, h6, hc, ho⟩
    obtain ⟨c1, c2⟩ := ca_of hc h6 ho
    by_cases q : LSd (dat mem) < 1000000
    · obtain ⟨z1, z2, z3, z4, z5⟩ := c2 q
      rw [lsB_1 q]
      refine ⟨fun z => absurd z (by decide), fun _ => ⟨_, C_fewest _ (t := t) (r := fun j => (ROW (dat mem)).getD j 0) hT12 z3 (by rw [ho 106 1 (by omega)]; exact t1) z1 (fun i hi => ⟨by rw [ho 107 i (by omega)]; exact (t3 i hi).1, (t3 i hi).2.2⟩) (fun j hj => ⟨(z4 j hj).2, by have := (z4 j hj).1; omega⟩), ?_⟩⟩
      rintro y m2 ⟨rfl, g⟩
      exact ⟨_, rfl, by rw [if_pos q], m, hc, ho, g⟩
    · rw [lsB_0 q]
      exact ⟨fun _ => ⟨_, rfl, by rw [if_neg q], m, hc, ho, fun _ _ _ => rfl⟩, fun z => absurd rfl z⟩
  rintro x m2 ⟨rfl, m1, hc, ho, g⟩
  have go : ∀ o j, ¬ (40 ≤ o ∧ o < 106) → ¬ o = 155 → m2 o j = mem o j := fun o j q1 q2 => by rw [g o j q2, ho o j q1]
  have hM2 : DM m2 (dat mem) := hM.of (go 187 0 (by omega) (by omega)) (go 187 3 (by omega) (by omega)) (go 187 4 (by omega) (by omega)) (fun o q1 q2 => funext fun j => go o j (by omega) (by omega))
  refine ⟨_, C_editsM l (t := t) hM2 hT12 (by rw [go 187 9 (by omega) (by omega)]; exact t2) (fun i hi => ⟨by rw [go 194 i (by omega) (by omega)]; exact (t3 i hi).2.1, (t3 i hi).2.2⟩), ?_⟩
  rintro y m3 ⟨rfl, r3⟩
  exact ⟨rfl, fin_sc h hc ho (fun o j q1 q2 q3 => by rw [r3 o j q1 q2, g o j q3])⟩
