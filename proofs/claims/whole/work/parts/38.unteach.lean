/-- the reference: i of the kept cells are taken back -/
def ULM (N : Nat → Nat) (f : Nat → Int32) (mm : TMem) (i : Nat) (m : TMem) : Prop := (∀ c, c < 48 → m 198 c = nI (N c - hc f (nI c) i)) ∧ ∀ o k, ¬ o = 198 → m o k = mm o k
set_option maxRecDepth 100000 in
theorem C_unteachM (l : Launch) {mem : TMem} {N : Nat → Nat} {K mny : Nat} (hK0 : 0 < K) (hK : K ≤ 16) (hm40 : mny ≤ 40) (e16 : mem 187 16 = nI K) (e199 : mem 199 (K - 1) = nI mny) (hf : ∀ q, q < mny → ∃ c, c < 48 ∧ mem 200 (40 * (K - 1) + q) = nI c) (hN : ∀ c, c < 48 → mem 198 c = nI (N c)) (hle : ∀ c, c < 48 → hc (fun q => mem 200 (40 * (K - 1) + q)) (nI c) mny ≤ N c) : TMi l i_X11_unteach 0 0 [.inr 187] mem (fun x m => x = nI mny ∧ ULM N (fun q => mem 200 (40 * (K - 1) + q)) (mset mem 187 16 (nI (K - 1))) mny m) := by
  refine tw_met (by decide) (Nat.le_of_ble_eq_true rfl) (fun κ hl hC hT => ?_)
  have ek : nI K - 1 = nI (K - 1) := by
    obtain ⟨K2, rfl⟩ : ∃ K2, K = K2 + 1 := ⟨K - 1, by omega⟩
    rw [nI_pred]; rfl
  have key : ∀ j i m, j + i = mny → ULM N (fun q => mem 200 (40 * (K - 1) + q)) (mset mem 187 16 (nI (K - 1))) i m → WT κ 22 [some (.inr 187), some (.inl (nI i))] [] m := by
    intro j
    induction j with
    | zero =>
      intro i m hi hm
      have : i = mny := by omega
      subst this
      have r16 : m 187 16 = nI (K - 1) := by rw [hm.2 187 16 (by omega), ms_eq]
      have r199 : m 199 (K - 1) = nI i := by rw [hm.2 199 _ (by omega), ms_ne (by omega)]; exact e199
      refine K_X11_unteach_22 hC hT m _ ?_
      rw [r16, nI_clamp (by omega), r199]
      exact ⟨vp_in_nI (by omega) (by omega), fun _ => ⟨_, rfl, rfl, hm⟩, fun q => absurd (nI_le (Nat.le_refl _) (by omega)) q⟩
    | succ j ih =>
      intro i m hi hm
      have r16 : m 187 16 = nI (K - 1) := by rw [hm.2 187 16 (by omega), ms_eq]
      have r199 : m 199 (K - 1) = nI mny := by rw [hm.2 199 _ (by omega), ms_ne (by omega)]; exact e199
      have e40 : (40 : Int32) * nI (K - 1) + nI i = nI (40 * (K - 1) + i) := by rw [show (40 : Int32) = nI 40 from rfl, pk_mul, nI_add]
      obtain ⟨c, hc1, hc2⟩ := hf i (by omega)
      have r200 : m 200 (40 * (K - 1) + i) = nI c := by rw [hm.2 200 _ (by omega), ms_ne (by omega)]; exact hc2
      refine K_X11_unteach_22 hC hT m _ ?_
      rw [r16, nI_clamp (by omega), r199, e40, nI_clamp (by omega), r200, nI_clamp (by omega), nI_1]
      refine ⟨vp_in_nI (by omega) (by omega), fun q => absurd q (nI_ge (by omega) (by omega)), fun _ => ⟨vp_in_nI (by omega) (by omega), vp_in_nI hc1 (by omega), ?_⟩⟩
      refine ih (i + 1) _ (by omega) ⟨fun c2 hc3 => ?_, fun o k ho => by rw [ms_ne ho]; exact hm.2 o k ho⟩
      have hmono : hc (fun q => mem 200 (40 * (K - 1) + q)) (nI c2) (i + 1) = hc (fun q => mem 200 (40 * (K - 1) + q)) (nI c2) i + if mem 200 (40 * (K - 1) + i) = nI c2 then 1 else 0 := rfl
      rw [hmono, hc2]
      by_cases e : c2 = c
      · subst e
        rw [ms_eq, hm.1 c2 hc3, if_pos rfl]
        have hle2 : hc (fun q => mem 200 (40 * (K - 1) + q)) (nI c2) (i + 1) ≤ N c2 := by
          have h1 := hle c2 hc3
          have h2 : ∀ p q, p ≤ q → hc (fun q => mem 200 (40 * (K - 1) + q)) (nI c2) p ≤ hc (fun q => mem 200 (40 * (K - 1) + q)) (nI c2) q := by
            intro p q hpq
            induction q with
            | zero => rw [Nat.le_zero.mp hpq]; exact Nat.le_refl _
            | succ q ih =>
              by_cases z : p = q + 1
              · rw [z]; exact Nat.le_refl _
              · have := ih (by omega)
                show _ ≤ hc _ _ q + _
                omega
          exact Nat.le_trans (h2 (i + 1) mny (by omega)) h1
        rw [hmono, hc2, if_pos rfl] at hle2
        rw [show (1 : Int32) = nI 1 from rfl, pk_sub (by omega)]
        congr 1
      · rw [ms_sl e, hm.1 c2 hc3, if_neg (fun q => e ((nI_eq (by omega) (by omega)).mp q).symm)]
        rfl
  have ne : ¬ nI K = 0 := nI_ne0 hK0 (by omega)
  refine K_X11_unteach_0 hC hT mem ⟨fun q => absurd (by rw [e16] at q; exact q) ne, fun _ => ?_⟩
  rw [e16, ek]
  exact key mny 0 _ (by omega) ⟨fun c hc1 => by rw [ms_ne (by omega), hN c hc1]; rfl, fun _ _ _ => rfl⟩
theorem S_unteach (l : Launch) (k : Nat) (mem : TMem) (h : INV k mem) : SIM l i_X10_unteach 1 25 i_X11_unteach 0 0 [] (INV (k + 1)) mem := by
  obtain ⟨n, W, T, a1, a2, a3, a4, a5, a6, a7, a8, a9, b1, b2, b3⟩ := id h
  obtain ⟨K, nx, many, base, q1, q2, q3, q4, q5, q6, q7, q8⟩ := id b1
  by_cases hK0 : K = 0
  · subst hK0
    have cX : TMi l i_X10_unteach 1 25 [.inr 0] mem (fun x m => x = -3 ∧ m = mem) := by
      refine tw_met (by decide) (Nat.le_of_ble_eq_true rfl) (fun κ hl hC hT => ?_)
      exact K_X10_unteach_0 hC hT mem ⟨fun _ => ⟨_, rfl, rfl, rfl⟩, fun q => absurd (by rw [q3]; decide) q⟩
    have cM : TMi l i_X11_unteach 0 0 [.inr 187] mem (fun x m => x = -3 ∧ m = mem) := by
      refine tw_met (by decide) (Nat.le_of_ble_eq_true rfl) (fun κ hl hC hT => ?_)
      exact K_X11_unteach_0 hC hT mem ⟨fun _ => ⟨_, rfl, rfl, rfl⟩, fun q => absurd (by rw [q4]; decide) q⟩
    refine ⟨_, cX, ?_⟩
    rintro x m ⟨rfl, rfl⟩
    refine ⟨_, cM, ?_⟩
    rintro y m2 ⟨rfl, rfl⟩
    exact ⟨rfl, INV_up _ _ h⟩
  obtain ⟨L, rfl⟩ : ∃ L, K = L + 1 := ⟨K - 1, by omega⟩
  obtain ⟨p1, p2, p3, p4⟩ := q6 L (by omega)
  have hring : (nx + 16 - (L + 1) + L) % 16 = (nx + 15) % 16 := by congr 1; omega
  generalize hfe : (fun i q => mem 200 (40 * i + q)) = f
  have hf0 : ∀ i, (fun q => mem 200 (40 * i + q)) = f i := fun i => by rw [← hfe]
  generalize hNe : (fun c => base c + sm (fun i => hc (f i) (nI c) (many i)) (L + 1)) = N
  generalize hHe : (fun c => hc (f L) (nI c) (many L)) = H
  have hN : ∀ s j, s < 6 → j < 8 → mem (158 + s) j = nI (N (8 * s + j)) := fun s j hs hj => by
    rw [(q7 s j hs hj).2, ← hNe, ← hfe]
  have hNM : ∀ c, c < 48 → mem 198 c = nI (N c) := fun c hc1 => by
    have h1 := (q7 (c / 8) (c % 8) (by omega) (by omega)).1
    rw [Nat.div_add_mod] at h1
    rw [h1, hN (c / 8) (c % 8) (by omega) (by omega), Nat.div_add_mod]
  have hH : ∀ c, c < 48 → mem (165 + (nx + 15) % 16) c = nI (H c) := fun c hc1 => by
    have := p4 c hc1
    rw [hring, hf0 L] at this
    rw [this, ← hHe]
  have hNd : ∀ c, N c = (base c + sm (fun i => hc (f i) (nI c) (many i)) L) + H c := fun c => by
    rw [← hNe, ← hHe]
    show base c + (sm _ L + hc (f L) (nI c) (many L)) = base c + sm _ L + hc (f L) (nI c) (many L)
    omega
  have hle : ∀ c, c < 48 → H c ≤ N c := fun c _ => by rw [hNd c]; omega
  have hsum : sm H 48 = many L := by
    rw [← hHe]
    exact hc_all (fun q hq => by rw [← hf0 L]; exact p3 q hq)
  have cX : TMi l i_X10_unteach 1 25 [.inr 0] mem (fun x m => x = nI (sm H 48) ∧ ULX N H (mset (mset mem 156 2 (nI ((nx + 15) % 16))) 156 3 (nI (L + 1 - 1))) 6 0 m) := by
    refine tw_met (by decide) (Nat.le_of_ble_eq_true rfl) (fun κ hl hC hT => ?_)
    refine K_X10_unteach_0 hC hT mem ⟨fun q => absurd q (by rw [q3]; exact nI_nle (by omega) (by omega)), fun _ => ⟨_, C_unlearn _ (N := N) (h := H) (by omega) q1 q2 q3 q5 hN hH hle, ?_⟩⟩
    rintro x m hx
    exact ⟨_, rfl, hx⟩
  refine ⟨_, cX, ?_⟩
  rintro x m1 ⟨rfl, hm1⟩
  have h1o : ∀ o j, (o < 158 ∨ 164 ≤ o) → ¬ o = 156 → m1 o j = mem o j := fun o j z1 z2 => by rw [hm1.2 o j z1, ms_ne z2, ms_ne z2]
  have hf1 : (fun q => m1 200 (40 * (L + 1 - 1) + q)) = f L := by
    rw [← hf0 L]
    funext q
    exact h1o 200 _ (by omega) (by omega)
  have cM := C_unteachM l (mem := m1) (N := N) (K := L + 1) (mny := many L) (by omega) q1 p1 (by rw [h1o 187 16 (by omega) (by omega)]; exact q4) (by rw [h1o 199 _ (by omega) (by omega)]; exact p2) (fun q hq => by
    obtain ⟨c, z1, z2⟩ := p3 q hq
    exact ⟨c, z1, by rw [h1o 200 _ (by omega) (by omega)]; exact z2⟩) (fun c hc1 => by rw [h1o 198 c (by omega) (by omega)]; exact hNM c hc1) (fun c hc1 => by
    rw [hf1]
    have := hle c hc1
    rw [← hHe] at this
    exact this)
  rw [hf1] at cM
  refine ⟨_, cM, ?_⟩
  rintro y m2 ⟨rfl, hm2⟩
  have h2o : ∀ o j, (o < 158 ∨ 164 ≤ o) → ¬ o = 156 → ¬ o = 198 → ¬ o = 187 → m2 o j = mem o j := fun o j z1 z2 z3 z4 => by rw [hm2.2 o j z3, ms_ne z4, h1o o j z1 z2]
  have go : ∀ o, (o < 158 ∨ 164 ≤ o) → ¬ o = 156 → ¬ o = 198 → ¬ o = 187 → m2 o = mem o := fun o z1 z2 z3 z4 => funext fun j => h2o o j z1 z2 z3 z4
  have f7 : ∀ j, ¬ j = 16 → m2 187 j = mem 187 j := fun j z => by rw [hm2.2 187 j (by omega), ms_sl z, h1o 187 j (by omega) (by omega)]
  have hf2 : ∀ i, (fun q => m2 200 (40 * i + q)) = f i := fun i => by
    rw [← hf0 i]
    funext q
    exact h2o 200 _ (by omega) (by omega) (by omega) (by omega)
  have hm158 : ∀ s j, s < 6 → j < 8 → m2 (158 + s) j = nI (base (8 * s + j) + sm (fun i => hc (f i) (nI (8 * s + j)) (many i)) L) := fun s j hs hj => by
    rw [hm2.2 (158 + s) j (by omega), ms_ne (by omega), (hm1.1 s j hs hj).1 (Or.inl hs), hNd (8 * s + j), Nat.add_sub_cancel]
  have hm198 : ∀ c, c < 48 → m2 198 c = nI (base c + sm (fun i => hc (f i) (nI c) (many i)) L) := fun c hc1 => by
    rw [hm2.1 c hc1, hNd c, ← hHe, Nat.add_sub_cancel]
  refine ⟨by rw [hsum], n, W, T, ?_, ?_, ?_, ?_, ?_, ?_, ?_, ?_, ?_, ?_, ?_, ?_⟩
  · exact a1.of (h2o 1 2 (by omega) (by omega) (by omega) (by omega)) (f7 0 (by omega))
  · exact a2.of (go 2 (by omega) (by omega) (by omega) (by omega)) (go 188 (by omega) (by omega) (by omega) (by omega))
  · exact a3.of (go 189 (by omega) (by omega) (by omega) (by omega)) (fun s hs => go (4 + s) (by omega) (by omega) (by omega) (by omega))
  · exact a4.of (h2o 1 3 (by omega) (by omega) (by omega) (by omega)) (f7 3 (by omega))
  · exact a5.of (h2o 10 4 (by omega) (by omega) (by omega) (by omega)) (f7 4 (by omega))
  · exact R_wy.of a5.1 a6 (go 29 (by omega) (by omega) (by omega) (by omega)) (go 190 (by omega) (by omega) (by omega) (by omega)) (go 28 (by omega) (by omega) (by omega) (by omega)) (go 191 (by omega) (by omega) (by omega) (by omega)) (go 192 (by omega) (by omega) (by omega) (by omega)) (fun s hs => go (12 + s) (by omega) (by omega) (by omega) (by omega))
  · exact a7.of (go 193 (by omega) (by omega) (by omega) (by omega)) (fun s hs => go (31 + s) (by omega) (by omega) (by omega) (by omega))
  · exact a8.of (h2o 106 1 (by omega) (by omega) (by omega) (by omega)) (f7 9 (by omega)) (go 107 (by omega) (by omega) (by omega) (by omega)) (go 194 (by omega) (by omega) (by omega) (by omega))
  · exact a9.of (h2o 108 5 (by omega) (by omega) (by omega) (by omega)) (f7 11 (by omega)) (go 153 (by omega) (by omega) (by omega) (by omega)) (go 109 (by omega) (by omega) (by omega) (by omega)) (go 195 (by omega) (by omega) (by omega) (by omega)) (go 196 (by omega) (by omega) (by omega) (by omega)) (go 197 (by omega) (by omega) (by omega) (by omega))
  · refine ⟨L, (nx + 15) % 16, many, base, by omega, Nat.mod_lt _ (by omega), ?_, ?_, ?_, fun i hi => ?_, fun s j hs hj => ?_, fun s hs => ?_⟩
    · rw [hm2.2 156 3 (by omega), ms_ne (by omega), hm1.2 156 3 (by omega), ms_eq]; rfl
    · rw [hm2.2 187 16 (by omega), ms_eq]; rfl
    · rw [hm2.2 156 2 (by omega), ms_ne (by omega), hm1.2 156 2 (by omega), ms_sl (by omega), ms_eq]
    · obtain ⟨z1, z2, z3, z4⟩ := q6 i (by omega)
      refine ⟨z1, ?_, fun q hq => ?_, fun c hc1 => ?_⟩
      · rw [h2o 199 i (by omega) (by omega) (by omega) (by omega)]; exact z2
      · obtain ⟨c, y1, y2⟩ := z3 q hq
        exact ⟨c, y1, by rw [h2o 200 _ (by omega) (by omega) (by omega) (by omega)]; exact y2⟩
      · rw [hf2 i]
        have er : ((nx + 15) % 16 + 16 - L + i) % 16 = (nx + 16 - (L + 1) + i) % 16 := by omega
        rw [er, h2o (165 + (nx + 16 - (L + 1) + i) % 16) c (by omega) (by omega) (by omega) (by omega), z4 c hc1, hf0 i]
    · have hfun : (fun i => hc (fun q => m2 200 (40 * i + q)) (nI (8 * s + j)) (many i)) = fun i => hc (f i) (nI (8 * s + j)) (many i) := funext fun i => by rw [hf2 i]
      rw [hfun, hm158 s j hs hj, hm198 (8 * s + j) (by omega)]
      exact ⟨rfl, rfl⟩
    · have h8 := q8 s hs
      refine Nat.le_trans ?_ (Nat.le_trans h8 (by omega))
      have hmono : ∀ (u v : Nat → Nat) m, (∀ i, u i ≤ v i) → sm u m ≤ sm v m := fun u v m huv => by
        induction m with
        | zero => exact Nat.le_refl _
        | succ m ih => unfold sm; have := huv m; omega
      refine hmono _ _ 8 (fun j => ?_)
      have hfun : (fun i => hc (fun q => m2 200 (40 * i + q)) (nI (8 * s + j)) (many i)) = fun i => hc (f i) (nI (8 * s + j)) (many i) := funext fun i => by rw [hf2 i]
      have hfun2 : (fun i => hc (fun q => mem 200 (40 * i + q)) (nI (8 * s + j)) (many i)) = fun i => hc (f i) (nI (8 * s + j)) (many i) := funext fun i => by rw [hf0 i]
      rw [hfun, hfun2]
      show _ ≤ base (8 * s + j) + (sm _ L + _)
      omega
  · exact b2.of (go 186 (by omega) (by omega) (by omega) (by omega)) (f7 19 (by omega)) (f7 20 (by omega)) (f7 21 (by omega))
  · exact b3.of (dat_of (h2o 1 2 (by omega) (by omega) (by omega) (by omega)) (h2o 1 3 (by omega) (by omega) (by omega) (by omega)) (h2o 10 4 (by omega) (by omega) (by omega) (by omega)) (go 2 (by omega) (by omega) (by omega) (by omega)) (fun s hs => go (4 + s) (by omega) (by omega) (by omega) (by omega)) (go 29 (by omega) (by omega) (by omega) (by omega)) (go 28 (by omega) (by omega) (by omega) (by omega)) (fun s hs => go (12 + s) (by omega) (by omega) (by omega) (by omega)) (fun s hs => go (31 + s) (by omega) (by omega) (by omega) (by omega))) (h2o 40 6 (by omega) (by omega) (by omega) (by omega)) (h2o 40 5 (by omega) (by omega) (by omega) (by omega)) (h2o 104 1 (by omega) (by omega) (by omega) (by omega)) (go 105 (by omega) (by omega) (by omega) (by omega)) (go 42 (by omega) (by omega) (by omega) (by omega))
