def RNM (ct : Nat → Nat → Nat) (mem : TMem) (s j : Nat) (m : TMem) : Prop := (∀ s2 j2, s2 < 6 → j2 < 8 → (dn2 s j s2 j2 → m 189 (8 * s2 + j2) = rnv ct (fun s j => mem 189 (8 * s + j)) s2 j2) ∧ (¬ dn2 s j s2 j2 → m 189 (8 * s2 + j2) = mem 189 (8 * s2 + j2))) ∧ ∀ o k, ¬ o = 189 → m o k = mem o k
theorem RNM_up {ct : Nat → Nat → Nat} {mem m : TMem} {s : Nat} (h : RNM ct mem s 8 m) : RNM ct mem (s + 1) 0 m := by
  refine ⟨fun s2 j2 q1 q2 => ⟨fun q => (h.1 s2 j2 q1 q2).1 (by unfold dn2 at q ⊢; omega), fun q => (h.1 s2 j2 q1 q2).2 (by unfold dn2 at q ⊢; omega)⟩, h.2⟩
theorem RNM_skip {ct : Nat → Nat → Nat} {mem m : TMem} {s : Nat} (hA : sm (ct s) 8 = 0) (h : RNM ct mem s 0 m) : RNM ct mem (s + 1) 0 m := by
  refine ⟨fun s2 j2 q1 q2 => ⟨fun q => ?_, fun q => (h.1 s2 j2 q1 q2).2 (by unfold dn2 at q ⊢; omega)⟩, h.2⟩
  by_cases e : s2 = s
  · subst e
    rw [(h.1 s2 j2 q1 q2).2 (by unfold dn2; omega)]
    unfold rnv
    rw [if_pos hA]
  · exact (h.1 s2 j2 q1 q2).1 (by unfold dn2 at q ⊢; omega)
theorem RNM_step {ct : Nat → Nat → Nat} {mem m : TMem} {s j : Nat} (hj : j < 8) (hA : ¬ sm (ct s) 8 = 0) (h : RNM ct mem s j m) : RNM ct mem s (j + 1) (mset m 189 (8 * s + j) (nI (50 * (sm (ct s) 8 - ct s j) / sm (ct s) 8))) := by
  refine ⟨fun s2 j2 q1 q2 => ?_, fun o k ho => by rw [ms_ne ho]; exact h.2 o k ho⟩
  by_cases e : s2 = s ∧ j2 = j
  · obtain ⟨rfl, rfl⟩ := e
    refine ⟨fun _ => ?_, fun q => absurd (Or.inr ⟨rfl, by omega⟩) q⟩
    rw [ms_eq]
    unfold rnv
    rw [if_neg hA]
  · rw [ms_sl (by omega)]
    exact ⟨fun q => (h.1 s2 j2 q1 q2).1 (by unfold dn2 at q ⊢; omega), fun q => (h.1 s2 j2 q1 q2).2 (by unfold dn2 at q ⊢; omega)⟩
set_option maxRecDepth 100000 in
theorem C_renewM (l : Launch) {mem : TMem} {ct : Nat → Nat → Nat} (hB : ∀ s, s < 6 → sm (ct s) 8 ≤ 20480) (hct : ∀ s j, s < 6 → j < 8 → mem 198 (8 * s + j) = nI (ct s j)) : TMi l i_X11_renew 0 0 [.inr 187] mem (fun x m => x = nI (rnc ct 6) ∧ ∃ m3, RNM ct mem 6 0 m3 ∧ m = mset m3 187 11 0) := by
  refine tw_met (by decide) (Nat.le_of_ble_eq_true rfl) (fun κ hl hC hT => ?_)
  have e8 : ∀ s j, (8 : Int32) * nI s + nI j = nI (8 * s + j) := fun s j => by rw [show (8 : Int32) = nI 8 from rfl, pk_mul, nI_add]
  have fillL : ∀ s, s < 6 → ¬ sm (ct s) 8 = 0 → (∀ m, RNM ct mem (s + 1) 0 m → WT κ 4 [some (.inr 187), some (.inl (nI (rnc ct s) + 1)), some (.inl (nI s + 1)), none, none] [] m) → ∀ i j m, i + j = 8 → RNM ct mem s j m → WT κ 46 [some (.inr 187), some (.inl (nI (rnc ct s))), some (.inl (nI s)), some (.inl (nI (sm (ct s) 8))), some (.inl (nI j))] [] m := by
    intro s hs hA next i
    have hAB := hB s hs
    have nle : ¬ nI (sm (ct s) 8) ≤ 0 := fun q => hA ((le0 (by omega)).mp q)
    induction i with
    | zero =>
      intro j m hj hm
      have : j = 8 := by omega
      subst this
      exact K_X11_renew_46 hC hT m _ _ _ _ ⟨fun _ => ⟨fun q => absurd q nle, fun _ => next m (RNM_up hm)⟩, fun q => absurd (by decide) q⟩
    | succ i ih =>
      intro j m hj hm
      have hc : ct s j ≤ sm (ct s) 8 := sm_le (by omega)
      refine K_X11_renew_46 hC hT m _ _ _ _ ⟨fun q => absurd q (nI_ge (b := 8) (by omega) (by omega)), fun _ => ⟨fun q => absurd q nle, fun _ => ⟨by rw [e8]; exact vp_in_nI (by omega) (by omega), nI_ne0 (by omega) (by omega), ?_⟩⟩⟩
      rw [e8, nI_clamp (by omega), hm.2 198 _ (by omega), hct s j hs (by omega), rn_val hAB hA hc, nI_1]
      exact ih (j + 1) _ (by omega) (RNM_step (by omega) hA hm)
  have sumL : ∀ s m, s < 6 → RNM ct mem s 0 m → WT κ 46 [some (.inr 187), some (.inl (nI (rnc ct s))), some (.inl (nI s)), some (.inl (nI (sm (ct s) 8))), some (.inl 0)] [] m → ∀ i j, i + j = 8 → WT κ 15 [some (.inr 187), some (.inl (nI (rnc ct s))), some (.inl (nI s)), some (.inl (nI (sm (ct s) j))), some (.inl (nI j))] [] m := by
    intro s m hs hm next i
    induction i with
    | zero =>
      intro j hj
      have : j = 8 := by omega
      subst this
      exact K_X11_renew_15 hC hT m _ _ _ _ ⟨fun _ => next, fun q => absurd (by decide) q⟩
    | succ i ih =>
      intro j hj
      refine K_X11_renew_15 hC hT m _ _ _ _ ⟨fun q => absurd q (nI_ge (b := 8) (by omega) (by omega)), fun _ => ⟨by rw [e8]; exact vp_in_nI (by omega) (by omega), ?_⟩⟩
      rw [e8, nI_clamp (by omega), hm.2 198 _ (by omega), hct s j hs (by omega), nI_add, nI_1]
      exact ih (j + 1) (by omega)
  have outer : ∀ i s m, i + s = 6 → RNM ct mem s 0 m → WT κ 4 [some (.inr 187), some (.inl (nI (rnc ct s))), some (.inl (nI s)), none, none] [] m := by
    intro i
    induction i with
    | zero =>
      intro s m hs hm
      have : s = 6 := by omega
      subst this
      exact K_X11_renew_4 hC hT m _ _ ⟨fun _ => ⟨_, rfl, rfl, m, hm, rfl⟩, fun q => absurd (by decide) q⟩
    | succ i ih =>
      intro s m hs hm
      have hs6 : s < 6 := by omega
      have hAB := hB s hs6
      refine K_X11_renew_4 hC hT m _ _ ⟨fun q => absurd q (nI_ge (b := 6) (by omega) (by omega)), fun _ => sumL s m hs6 hm ?_ 8 0 (by omega)⟩
      by_cases q : sm (ct s) 8 = 0
      · have hz : nI (sm (ct s) 8) ≤ 0 := (le0 (by omega)).mpr q
        have nx : WT κ 4 [some (.inr 187), some (.inl (nI (rnc ct s) + 0)), some (.inl (nI s + 1)), none, none] [] m := by
          have := ih (s + 1) m (by omega) (RNM_skip q hm)
          rw [show rnc ct (s + 1) = rnc ct s by unfold rnc; show sm _ s + (if sm (ct s) 8 = 0 then 0 else 1) = _; rw [if_pos q]; rfl] at this
          rw [nI_1, show nI (rnc ct s) + 0 = nI (rnc ct s) from nI_add _ 0]
          exact this
        exact K_X11_renew_46 hC hT m _ _ _ _ ⟨fun _ => ⟨fun _ => nx, fun z => absurd hz z⟩, fun _ => ⟨fun _ => nx, fun z => absurd hz z⟩⟩
      · refine fillL s hs6 q (fun m3 h3 => ?_) 8 0 m (by omega) hm
        have := ih (s + 1) m3 (by omega) h3
        rw [show rnc ct (s + 1) = rnc ct s + 1 by unfold rnc; show sm _ s + (if sm (ct s) 8 = 0 then 0 else 1) = _; rw [if_neg q]] at this
        rw [nI_1, nI_1]
        exact this
  exact K_X11_renew_0 hC hT mem (outer 6 0 mem (by omega) ⟨fun s2 j2 q1 q2 => ⟨fun q => absurd q (by unfold dn2; omega), fun _ => rfl⟩, fun _ _ _ => rfl⟩)
theorem rnv_le {ct : Nat → Nat → Nat} {old : Nat → Nat → Int32} {s j : Nat} (h : ∃ c, c ≤ 50 ∧ old s j = nI c) : ∃ c, c ≤ 50 ∧ rnv ct old s j = nI c := by
  unfold rnv
  by_cases q : sm (ct s) 8 = 0
  · rw [if_pos q]; exact h
  · rw [if_neg q]
    refine ⟨_, ?_, rfl⟩
    have h1 : 50 * (sm (ct s) 8 - ct s j) ≤ 50 * sm (ct s) 8 := Nat.mul_le_mul_left _ (Nat.sub_le _ _)
    calc 50 * (sm (ct s) 8 - ct s j) / sm (ct s) 8 ≤ 50 * sm (ct s) 8 / sm (ct s) 8 := Nat.div_le_div_right h1
      _ = 50 := Nat.mul_div_cancel _ (by omega)
theorem S_renew (l : Launch) (k : Nat) (mem : TMem) (hk : k < 512) (h : INV k mem) : SIM l i_X10_renew 2 48 i_X11_renew 0 0 [] (INV (k + 1)) mem := by
  obtain ⟨n, W, T, a1, a2, a3, a4, a5, a6, a7, a8, a9, b1, b2, b3⟩ := id h
  obtain ⟨K, nx, many, base, q1, q2, q3, q4, q5, q6, q7, q8⟩ := id b1
  generalize hcte : (fun s j => base (8 * s + j) + sm (fun i => hc (fun q => mem 200 (40 * i + q)) (nI (8 * s + j)) (many i)) K) = ct
  have hct : ∀ s j, s < 6 → j < 8 → mem (158 + s) j = nI (ct s j) := fun s j hs hj => by rw [← hcte]; exact (q7 s j hs hj).2
  have hctM : ∀ s j, s < 6 → j < 8 → mem 198 (8 * s + j) = nI (ct s j) := fun s j hs hj => by rw [(q7 s j hs hj).1]; exact hct s j hs hj
  have hB : ∀ s, s < 6 → sm (ct s) 8 ≤ 20480 := fun s hs => by
    have := q8 s hs
    rw [← hcte]
    exact Nat.le_trans this (by omega)
  generalize hmm : mset (mset mem 40 6 0) 108 5 0 = mm
  have hmo : ∀ o j, ¬ o = 40 → ¬ o = 108 → mm o j = mem o j := fun o j z1 z2 => by rw [← hmm, ms_ne z2, ms_ne z1]
  have cX : TMi l i_X10_renew 2 48 [.inr 0] mem (fun x m => x = nI (rnc ct 6) ∧ RNX ct mm 6 0 m) := by
    refine tw_met (by decide) (Nat.le_of_ble_eq_true rfl) (fun κ hl hC hT => ?_)
    refine K_X10_renew_0 hC hT mem ⟨_, C_setCosts _ (ct := ct) (mem := mset (mset mem 40 6 0) 108 5 0) hB (fun s j hs hj => by rw [hmm, hmo _ _ (by omega) (by omega)]; exact hct s j hs hj), ?_⟩
    rintro x m ⟨rfl, hm⟩
    rw [hmm] at hm
    exact ⟨_, rfl, rfl, hm⟩
  refine ⟨_, cX, ?_⟩
  rintro x m1 ⟨rfl, hm1⟩
  have h1o : ∀ o j, (o < 4 ∨ 10 ≤ o) → ¬ o = 40 → ¬ o = 108 → m1 o j = mem o j := fun o j z1 z2 z3 => by rw [hm1.2 o j z1, hmo o j z2 z3]
  refine ⟨_, C_renewM l (ct := ct) (mem := m1) hB (fun s j hs hj => by rw [h1o 198 _ (by omega) (by omega) (by omega)]; exact hctM s j hs hj), ?_⟩
  rintro y m2 ⟨rfl, m3, hm3, rfl⟩
  have h3o : ∀ o j, (o < 4 ∨ 10 ≤ o) → ¬ o = 40 → ¬ o = 108 → ¬ o = 189 → m3 o j = mem o j := fun o j z1 z2 z3 z4 => by rw [hm3.2 o j z4, h1o o j z1 z2 z3]
  have fo : ∀ o j, (o < 4 ∨ 10 ≤ o) → ¬ o = 40 → ¬ o = 108 → ¬ o = 189 → ¬ o = 187 → (mset m3 187 11 0) o j = mem o j := fun o j z1 z2 z3 z4 z5 => by rw [ms_ne z5, h3o o j z1 z2 z3 z4]
  have go : ∀ o, (o < 4 ∨ 10 ≤ o) → ¬ o = 40 → ¬ o = 108 → ¬ o = 189 → ¬ o = 187 → (mset m3 187 11 0) o = mem o := fun o z1 z2 z3 z4 z5 => funext fun j => fo o j z1 z2 z3 z4 z5
  have f7 : ∀ j, ¬ j = 11 → (mset m3 187 11 0) 187 j = mem 187 j := fun j z => by rw [ms_sl z, h3o 187 j (by omega) (by omega) (by omega) (by omega)]
  refine ⟨rfl, n, W, T, ?_, ?_, ?_, ?_, ?_, ?_, ?_, ?_, R_la.no ?_ ?_, ?_, ?_, R_ca.no ?_⟩
  · exact a1.of (fo 1 2 (by omega) (by omega) (by omega) (by omega) (by omega)) (f7 0 (by omega))
  · exact a2.of (go 2 (by omega) (by omega) (by omega) (by omega) (by omega)) (go 188 (by omega) (by omega) (by omega) (by omega) (by omega))
  · intro s j hs hj
    have dn : dn2 6 0 s j := Or.inl hs
    have r1 : (mset m3 187 11 0) 189 (8 * s + j) = rnv ct (fun s j => mem (4 + s) j) s j := by
      rw [ms_ne (by omega), (hm3.1 s j hs hj).1 dn]
      unfold rnv
      dsimp only
      rw [h1o 189 _ (by omega) (by omega) (by omega), (a3 s j hs hj).1]
    have r2 : (mset m3 187 11 0) (4 + s) j = rnv ct (fun s j => mem (4 + s) j) s j := by
      rw [ms_ne (by omega), hm3.2 (4 + s) j (by omega), (hm1.1 s j hs hj).1 dn]
      unfold rnv
      dsimp only
      rw [hmo (4 + s) j (by omega) (by omega)]
    rw [r1, r2]
    exact ⟨rfl, rnv_le (a3 s j hs hj).2⟩
  · exact a4.of (fo 1 3 (by omega) (by omega) (by omega) (by omega) (by omega)) (f7 3 (by omega))
  · exact a5.of (fo 10 4 (by omega) (by omega) (by omega) (by omega) (by omega)) (f7 4 (by omega))
  · exact R_wy.of a5.1 a6 (go 29 (by omega) (by omega) (by omega) (by omega) (by omega)) (go 190 (by omega) (by omega) (by omega) (by omega) (by omega)) (go 28 (by omega) (by omega) (by omega) (by omega) (by omega)) (go 191 (by omega) (by omega) (by omega) (by omega) (by omega)) (go 192 (by omega) (by omega) (by omega) (by omega) (by omega)) (fun s hs => go (12 + s) (by omega) (by omega) (by omega) (by omega) (by omega))
  · exact a7.of (go 193 (by omega) (by omega) (by omega) (by omega) (by omega)) (fun s hs => go (31 + s) (by omega) (by omega) (by omega) (by omega) (by omega))
  · exact a8.of (fo 106 1 (by omega) (by omega) (by omega) (by omega) (by omega)) (f7 9 (by omega)) (go 107 (by omega) (by omega) (by omega) (by omega) (by omega)) (go 194 (by omega) (by omega) (by omega) (by omega) (by omega))
  · rw [ms_ne (by omega), hm3.2 108 5 (by omega), hm1.2 108 5 (by omega), ← hmm, ms_eq]
  · rw [ms_eq]
  · exact (b1.of (fo 156 3 (by omega) (by omega) (by omega) (by omega) (by omega)) (f7 16 (by omega)) (fo 156 2 (by omega) (by omega) (by omega) (by omega) (by omega)) (go 199 (by omega) (by omega) (by omega) (by omega) (by omega)) (go 200 (by omega) (by omega) (by omega) (by omega) (by omega)) (go 198 (by omega) (by omega) (by omega) (by omega) (by omega)) (fun s hs => go (158 + s) (by omega) (by omega) (by omega) (by omega) (by omega)) (fun s hs => go (165 + s) (by omega) (by omega) (by omega) (by omega) (by omega))).up (by omega)
  · exact b2.of (go 186 (by omega) (by omega) (by omega) (by omega) (by omega)) (f7 19 (by omega)) (f7 20 (by omega)) (f7 21 (by omega))
  · rw [ms_ne (by omega), hm3.2 40 6 (by omega), hm1.2 40 6 (by omega), ← hmm, ms_ne (by omega), ms_eq]
