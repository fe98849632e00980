/-! SPOT -/
abbrev SPs : Type := Option (Nat × Nat × Nat)
def spS (i j v : Nat) (s : SPs) : SPs := if v < 1000000 then (match s with
  | none => some (i, j, v)
  | some q => if v * (q.2.1 - q.1) < q.2.2 * (j - i) then some (i, j, v) else s) else s
def spJ (d : PD) (w i : Nat) : Nat → SPs → SPs
  | 0, s => s
  | t + 1, s => spS i (i + t + 1) (OF d w i (t + 1)) (spJ d w i t s)
def spI (d : PD) (w : Nat) : Nat → SPs
  | 0 => none
  | i + 1 => spJ d w i (min (dn d) (i + 20) - i) (spI d w i)
def spW (s : SPs) : Prop := ∀ q, s = some q → q.1 < q.2.1 ∧ q.2.1 ≤ 40 ∧ q.2.2 < 1000000
theorem spS_far {i j v : Nat} {s : SPs} (h : ¬ v < 1000000) : spS i j v s = s := if_neg h
theorem spS_no {i j v : Nat} (h : v < 1000000) : spS i j v none = some (i, j, v) := if_pos h
theorem spS_yes {i j v : Nat} {q : Nat × Nat × Nat} (h : v < 1000000) (h2 : v * (q.2.1 - q.1) < q.2.2 * (j - i)) : spS i j v (some q) = some (i, j, v) := by
  unfold spS
  rw [if_pos h]
  exact if_pos h2
theorem spS_keep {i j v : Nat} {q : Nat × Nat × Nat} (h2 : ¬ v * (q.2.1 - q.1) < q.2.2 * (j - i)) : spS i j v (some q) = some q := by
  unfold spS
  by_cases h : v < 1000000
  · rw [if_pos h]
    exact if_neg h2
  · rw [if_neg h]
theorem spS_W {i j v : Nat} {s : SPs} (hs : spW s) (h1 : i < j) (h2 : j ≤ 40) : spW (spS i j v s) := by
  by_cases h : v < 1000000
  · have new : spW (some (i, j, v)) := fun q hq => by cases hq; exact ⟨h1, h2, h⟩
    cases s with
    | none => rw [spS_no h]; exact new
    | some q =>
      by_cases h3 : v * (q.2.1 - q.1) < q.2.2 * (j - i)
      · rw [spS_yes h h3]; exact new
      · rw [spS_keep h3]; exact hs
  · rw [spS_far h]; exact hs
theorem spJ_W {d : PD} {w i t : Nat} {s : SPs} (hs : spW s) (h : i + t ≤ 40) : spW (spJ d w i t s) := by
  induction t with
  | zero => exact hs
  | succ t ih => exact spS_W (ih (by omega)) (by omega) (by omega)
theorem spI_W {d : PD} {w : Nat} (hn : dn d ≤ 40) : ∀ i, i ≤ dn d → spW (spI d w i)
  | 0, _ => fun q hq => by cases hq
  | i + 1, h => spJ_W (spI_W hn i (by omega)) (by omega)
def SX (s : SPs) (x : Int32) (m : TMem) : Prop := match s with
  | none => x = 0
  | some q => x = 1 ∧ m 181 1 = nI q.1 ∧ m 181 2 = nI q.2.1 ∧ m 181 3 = nI q.2.2
theorem SX.two {s : SPs} {x : Int32} {m : TMem} (h : SX s x m) : x = 0 ∨ x = 1 := by
  cases s with
  | none => exact Or.inl h
  | some q => exact Or.inr h.1
theorem OF_far (d : PD) (w i t : Nat) : OF d w i t ≤ 1000000 := mn_far _ _
theorem sp_cmp {a b c e v p : Nat} (h1 : a < b) (hb : b ≤ 40) (h2 : c < e) (he : e ≤ 40) (hv : v < 1000000) (hp : p < 1000000) : (nI p * (nI e - nI c) ≤ nI v * (nI b - nI a)) ↔ ¬ v * (b - a) < p * (e - c) := by
  rw [pk_sub (by omega), pk_sub (by omega), pk_mul, pk_mul]
  have q1 : p * (e - c) ≤ 1000000 * 40 := Nat.mul_le_mul (by omega) (by omega)
  have q2 : v * (b - a) ≤ 1000000 * 40 := Nat.mul_le_mul (by omega) (by omega)
  rw [nI_leI (by omega) (by omega)]
  omega
theorem spot_EN {d : PD} {w i to j : Nat} (hl : ∀ v, v < dwy d w → 0 < dln d w v) (h1 : i < j) (h2 : j ≤ to) : EN d w (fun f => if f = i then 0 else 1000000) i to (dwy d w) j = OF d w i (j - i) := by
  rw [EN_is (fun f => by split <;> omega) hl h1 h2]
  obtain ⟨t, ht⟩ : ∃ t, j - i = t + 1 := ⟨j - i - 1, by omega⟩
  rw [ht, mn_shift]
  have e0 : mn t (fun u => sa (if i + (u + 1) = i then 0 else 1000000) (OF d w (i + (u + 1)) (t + 1 - (u + 1)))) = 1000000 := mn_const_far t (fun u _ => by
    rw [if_neg (by omega)]
    unfold sa
    omega)
  rw [e0]
  show min (sa (if i + 0 = i then 0 else 1000000) (OF d w (i + 0) (t + 1 - 0))) 1000000 = _
  rw [if_pos (by omega), Nat.add_zero, Nat.sub_zero]
  have := OF_far d w i (t + 1)
  unfold sa
  omega
set_option maxRecDepth 100000 in
theorem C_startNowhere (l : Launch) {mem : TMem} : TMv l i_X8_startNowhere 1 23 [.inr 182] mem (fun m => m = mfill mem 183 41 1000000) := by
  refine tw_met (by decide) (Nat.le_of_ble_eq_true rfl) (fun κ hl hC hT => ?_)
  exact K_X8_startNowhere_0 hC hT mem ⟨_, C_fillT _ (n := 41) (by decide +kernel) (by omega), fun m h => ⟨rfl, h⟩⟩
set_option maxRecDepth 100000 in
theorem C_find9 (l : Launch) {mem : TMem} {d : PD} {w : Nat} (hd : DX mem d) (hw : w < dW d) : TMi l i_X9_find 3 79 [.inr 181, .inr 1, .inr 10, .inl (nI w)] mem (fun x m => SX (spI d w (dn d)) x m ∧ ∀ o j, ¬ (181 ≤ o ∧ o < 186) → m o j = mem o j) := by
  refine tw_met (by decide) (Nat.le_of_ble_eq_true rfl) (fun κ hl hC hT => ?_)
  have h40 := hd.n40
  have h8 := hd.w8
  have hwy := hd.wy w hw
  have inner : ∀ i to, i < to → to ≤ dn d → (∀ x m, SX (spJ d w i (to - i) (spI d w i)) x m → (∀ o j, ¬ (181 ≤ o ∧ o < 186) → m o j = mem o j) → WT κ 6 [some (.inr 181), some (.inr 1), some (.inr 10), some (.inl (nI w)), some (.inl x), some (.inl (nI i + 1)), none, none, none] [] m) → ∀ c t x m, c + (i + t) = to → SX (spJ d w i t (spI d w i)) x m → (∀ o j, ¬ (181 ≤ o ∧ o < 186) → m o j = mem o j) → (∀ j, i < j → j ≤ to → m 184 j = nI (OF d w i (j - i))) → WT κ 66 [some (.inr 181), some (.inr 1), some (.inr 10), some (.inl (nI w)), some (.inl x), some (.inl (nI i)), some (.inl (nI to)), some (.inl (nI (i + t + 1))), none] [] m := by
    intro i to hi hto next c
    induction c with
    | zero =>
      intro t x m hc hs ho he
      refine K_X9_find_66 hC hT m _ _ _ _ _ ⟨fun _ => next x m ?_ ho, fun q => absurd (nI_lt (by omega) (by omega)) q⟩
      rw [show to - i = t by omega]
      exact hs
    | succ c ih =>
      intro t x m hc hs ho he
      have hW : spW (spJ d w i t (spI d w i)) := spJ_W (spI_W h40 i (by omega)) (by omega)
      have hv := he (i + t + 1) (by omega) (by omega)
      rw [show i + t + 1 - i = t + 1 by omega] at hv
      have hvf := OF_far d w i (t + 1)
      refine K_X9_find_66 hC hT m _ _ _ _ _ ⟨fun q => absurd q (nI_nlt (by omega) (by omega)), fun _ => ⟨vp_in_nI (by omega) (by omega), ?_⟩⟩
      rw [nI_clamp (n := i + t + 1) (by omega), hv, nI_1 (i + t + 1), show (1000000 : Int32) = nI 1000000 from rfl, nI_leI (by omega) (by omega)]
      have stay : spJ d w i (t + 1) (spI d w i) = spJ d w i t (spI d w i) → WT κ 66 [some (.inr 181), some (.inr 1), some (.inr 10), some (.inl (nI w)), some (.inl x), some (.inl (nI i)), some (.inl (nI to)), some (.inl (nI (i + t + 1 + 1))), none] [] m := fun e => ih (t + 1) x m (by omega) (by rw [e]; exact hs) ho he
      have set_ : spJ d w i (t + 1) (spI d w i) = some (i, i + t + 1, OF d w i (t + 1)) → WT κ 66 [some (.inr 181), some (.inr 1), some (.inr 10), some (.inl (nI w)), some (.inl 1), some (.inl (nI i)), some (.inl (nI to)), some (.inl (nI (i + t + 1 + 1))), none] [] (mset (mset (mset m 181 1 (nI i)) 181 2 (nI (i + t + 1))) 181 3 (nI (OF d w i (t + 1)))) := fun e => by
        refine ih (t + 1) 1 _ (by omega) ?_ (fun o j q => ?_) (fun j q1 q2 => ?_)
        · rw [e]
          refine ⟨rfl, ?_, ?_, ?_⟩
          · rw [ms_sl (by omega), ms_sl (by omega), ms_eq]
          · rw [ms_sl (by omega), ms_eq]
          · rw [ms_eq]
        · rw [ms_ne (by omega), ms_ne (by omega), ms_ne (by omega)]
          exact ho o j q
        · rw [ms_ne (by omega), ms_ne (by omega), ms_ne (by omega)]
          exact he j q1 q2
      refine ⟨fun q => stay (spS_far (by omega)), fun q => ?_⟩
      have hv1 : OF d w i (t + 1) < 1000000 := by omega
      generalize hS : spJ d w i t (spI d w i) = s at *
      have hst : spJ d w i (t + 1) (spI d w i) = spS i (i + t + 1) (OF d w i (t + 1)) s := by rw [← hS]; rfl
      cases s with
      | none =>
        have hx : x = 0 := hs
        exact ⟨fun _ => set_ (by rw [hst, spS_no hv1]), fun q => absurd hx q⟩
      | some z =>
        obtain ⟨hx, s1, s2, s3⟩ := hs
        obtain ⟨w1, w2, w3⟩ := hW z rfl
        refine ⟨fun q => absurd (hx.symm.trans q) (by decide), fun _ => ?_⟩
        unfold F_X9_isCheaper
        rw [s1, s2, s3]
        by_cases hcmp : OF d w i (t + 1) * (z.2.1 - z.1) < z.2.2 * (i + t + 1 - i)
        · have n1 : ¬ nI z.2.2 * (nI (i + t + 1) - nI i) ≤ nI (OF d w i (t + 1)) * (nI z.2.1 - nI z.1) := fun q => (sp_cmp w1 w2 (by omega) (by omega) hv1 w3).mp q hcmp
          rw [if_neg n1]
          exact ⟨fun q => absurd q (by decide), fun _ => set_ (by rw [hst, spS_yes hv1 hcmp])⟩
        · have n1 : nI z.2.2 * (nI (i + t + 1) - nI i) ≤ nI (OF d w i (t + 1)) * (nI z.2.1 - nI z.1) := (sp_cmp w1 w2 (by omega) (by omega) hv1 w3).mpr hcmp
          rw [if_pos n1]
          exact ⟨fun _ => stay (by rw [hst, spS_keep hcmp]), fun q => absurd rfl q⟩
  have outer : ∀ c i x m, c + i = dn d → SX (spI d w i) x m → (∀ o j, ¬ (181 ≤ o ∧ o < 186) → m o j = mem o j) → WT κ 6 [some (.inr 181), some (.inr 1), some (.inr 10), some (.inl (nI w)), some (.inl x), some (.inl (nI i)), none, none, none] [] m := by
    intro c
    induction c with
    | zero =>
      intro i x m hc hs ho
      have : i = dn d := by omega
      subst this
      refine K_X9_find_6 hC hT m _ _ _ ⟨fun _ => ⟨hs.two, x, rfl, hs, ho⟩, fun q => absurd ?_ q⟩
      rw [ho 1 2 (by omega), hd.fr]
      exact nI_le (Nat.le_refl _) (by omega)
    | succ c ih =>
      intro i x m hc hs ho
      have ef : m 1 2 = nI (dn d) := by rw [ho 1 2 (by omega)]; exact hd.fr
      have eto : imin (m 1 2) (nI i + 20) = nI (min (dn d) (i + 20)) := by
        rw [ef, show nI i + 20 = nI (i + 20) from nI_add _ 20, imin_nI (by omega) (by omega)]
      refine K_X9_find_6 hC hT m _ _ _ ⟨fun q => absurd q (by rw [ef]; exact nI_ge (by omega) (by omega)), fun _ => ⟨_, C_startNowhere _, ?_⟩⟩
      rintro m3 rfl
      rw [eto, nI_clamp (n := i) (by omega), show imin 1000000 0 = nI 0 by decide]
      have hdm : DX (mset (mfill m 183 41 1000000) 183 i (nI 0)) d := hd.of (fun o h => funext fun j => by rw [ms_ne (by omega), mfill_o (by omega)]; exact ho o j (by omega))
      refine ⟨vp_in_nI (by omega) (by omega), _, C_run_182 _ (S := fun f => if f = i then 0 else 1000000) hdm hw (by omega) (by omega) (fun f q1 q2 => ?_) (fun f => by split <;> omega), ?_⟩
      · by_cases e : f = i
        · subst e
          rw [ms_eq, if_pos rfl]
        · rw [ms_sl e, mfill_at (by omega), if_neg e]
          rfl
      rintro m4 ⟨r1, r2⟩
      have go := inner i (min (dn d) (i + 20)) (by omega) (by omega) (fun x2 m5 g1 g2 => by rw [nI_1]; exact ih (i + 1) x2 m5 (by omega) g1 g2) (min (dn d) (i + 20) - i) 0 x m4 (by omega) ?_ (fun o j q => ?_) (fun j q1 q2 => ?_)
      · rw [nI_1]
        exact go
      · show SX (spI d w i) x m4
        cases hz : spI d w i with
        | none => rw [hz] at hs; exact hs
        | some z =>
          rw [hz] at hs
          obtain ⟨hx, s1, s2, s3⟩ := hs
          exact ⟨hx, by rw [r2 181 1 (by omega) (by omega), ms_ne (by omega), mfill_o (by omega)]; exact s1, by rw [r2 181 2 (by omega) (by omega), ms_ne (by omega), mfill_o (by omega)]; exact s2, by rw [r2 181 3 (by omega) (by omega), ms_ne (by omega), mfill_o (by omega)]; exact s3⟩
      · rw [r2 o j (by omega) (by omega), ms_ne (by omega), mfill_o (by omega)]
        exact ho o j q
      · rw [r1 j (by omega), spot_EN (fun v hv => (hd.ln w v hw hv).1) q1 q2]
  exact K_X9_find_0 hC hT mem _ (outer (dn d) 0 0 mem (by omega) rfl (fun _ _ _ => rfl))
def SM (s : SPs) (x y z : Int32) : Prop := match s with
  | none => x = -1
  | some q => x = nI q.1 ∧ y = nI q.2.1 ∧ z = nI q.2.2
def spA (s : SPs) (p : Int32) : Int32 := match s with
  | none => -3
  | some q => if p = 0 then nI q.1 else if p = 1 then nI q.2.1 else nI q.2.2
set_option maxRecDepth 100000 in
theorem C_spotM (l : Launch) {mem : TMem} {d : PD} {w : Nat} {p2 : Int32} (hd : DM mem d) (hw : w < dW d) (hp : ¬ F_X11_in p2 0 2 = 0) : TMi l i_X11_spot 3 72 [.inr 187, .inl (nI w), .inl p2] mem (fun y m => y = spA (spI d w (dn d)) p2 ∧ ∀ o j, ¬ o = 201 → ¬ o = 202 → ¬ o = 203 → m o j = mem o j) := by
  refine tw_met (by decide) (Nat.le_of_ble_eq_true rfl) (fun κ hl hC hT => ?_)
  have h40 := hd.n40
  have h8 := hd.w8
  have inner : ∀ m, LAF d mem m → ∀ i, i < dn d → (∀ x y z, SM (spJ d w i (min (dn d) (i + 20) - i) (spI d w i)) x y z → WT κ 36 [some (.inr 187), some (.inl (nI w)), some (.inl p2), some (.inl x), some (.inl y), some (.inl z), some (.inl (nI i + 1)), none, none] [] m) → ∀ c t x y z, c + (i + t) = min (dn d) (i + 20) → SM (spJ d w i t (spI d w i)) x y z → WT κ 51 [some (.inr 187), some (.inl (nI w)), some (.inl p2), some (.inl x), some (.inl y), some (.inl z), some (.inl (nI i)), some (.inl (nI (i + t + 1))), none] [] m := by
    intro m hm i hi next c
    have ef : m 187 0 = nI (dn d) := by rw [hm.2 187 0 (by omega) (by omega) (by omega)]; exact hd.fr
    have e20 : nI i + 20 = nI (i + 20) := nI_add _ 20
    induction c with
    | zero =>
      intro t x y z hc hs
      have nx := next x y z (by rw [show min (dn d) (i + 20) - i = t by omega]; exact hs)
      refine K_X11_spot_51 hC hT m _ _ _ _ _ _ _ ⟨fun _ => nx, fun q => ⟨fun _ => nx, fun q2 => ?_⟩⟩
      rw [ef, nI_ltI (by omega) (by omega)] at q
      rw [e20, nI_ltI (by omega) (by omega)] at q2
      omega
    | succ c ih =>
      intro t x y z hc hs
      have hW : spW (spJ d w i t (spI d w i)) := spJ_W (spI_W h40 i (by omega)) (by omega)
      have hv := hm.1 w i (i + t + 1) hw hi (by omega) (by omega)
      rw [show i + t + 1 - i = t + 1 by omega] at hv
      have hvf := OF_far d w i (t + 1)
      refine K_X11_spot_51 hC hT m _ _ _ _ _ _ _ ⟨fun q => absurd q (by rw [ef]; exact nI_nlt (by omega) (by omega)), fun _ => ⟨fun q => absurd q (by rw [e20]; exact nI_nlt (by omega) (by omega)), fun _ => ?_⟩⟩
      rw [ixI, nI_clamp (n := (41 * w + i) * 41 + (i + t + 1)) (by omega), hv, nI_1 (i + t + 1), show (1000000 : Int32) = nI 1000000 from rfl, nI_leI (by omega) (by omega)]
      refine ⟨vp_in_nI (by omega) (by omega), fun q => ih (t + 1) x y z (by omega) (by rw [show spJ d w i (t + 1) (spI d w i) = spJ d w i t (spI d w i) from spS_far (by omega)]; exact hs), fun q => ?_⟩
      have hv1 : OF d w i (t + 1) < 1000000 := by omega
      generalize hS : spJ d w i t (spI d w i) = s at *
      have hst : spJ d w i (t + 1) (spI d w i) = spS i (i + t + 1) (OF d w i (t + 1)) s := by rw [← hS]; rfl
      cases s with
      | none =>
        have hx : x = -1 := hs
        exact ⟨fun _ => ih (t + 1) _ _ _ (by omega) (by rw [hst, spS_no hv1]; exact ⟨rfl, rfl, rfl⟩), fun q => absurd hx q⟩
      | some a =>
        obtain ⟨s1, s2, s3⟩ := hs
        obtain ⟨w1, w2, w3⟩ := hW a rfl
        subst s1 s2 s3
        refine ⟨fun q => absurd q (nI_nm1 (by omega)), fun _ => ?_⟩
        rw [sp_cmp w1 w2 (by omega) (by omega) hv1 w3]
        refine ⟨fun q => ih (t + 1) _ _ _ (by omega) (by rw [hst, spS_keep q]; exact ⟨rfl, rfl, rfl⟩), fun q => ih (t + 1) _ _ _ (by omega) (by rw [hst, spS_yes hv1 (Decidable.not_not.mp q)]; exact ⟨rfl, rfl, rfl⟩)⟩
  have outer : ∀ m, LAF d mem m → ∀ c i x y z, c + i = dn d → SM (spI d w i) x y z → WT κ 36 [some (.inr 187), some (.inl (nI w)), some (.inl p2), some (.inl x), some (.inl y), some (.inl z), some (.inl (nI i)), none, none] [] m := by
    intro m hm c
    have ef : m 187 0 = nI (dn d) := by rw [hm.2 187 0 (by omega) (by omega) (by omega)]; exact hd.fr
    induction c with
    | zero =>
      intro i x y z hc hs
      have : i = dn d := by omega
      subst this
      refine K_X11_spot_36 hC hT m _ _ _ _ _ _ ⟨fun _ => ?_, fun q => absurd (by rw [ef]; exact nI_le (Nat.le_refl _) (by omega)) q⟩
      have hW := spI_W (w := w) h40 (dn d) (Nat.le_refl _)
      unfold spA
      cases hz : spI d w (dn d) with
      | none =>
        rw [hz] at hs
        exact ⟨fun _ => ⟨_, rfl, rfl, hm.2⟩, fun q => absurd hs q⟩
      | some a =>
        rw [hz] at hs
        obtain ⟨s1, s2, s3⟩ := hs
        obtain ⟨w1, w2, w3⟩ := hW a hz
        subst s1 s2 s3
        exact ⟨fun q => absurd q (nI_nm1 (by omega)), fun _ => ⟨fun q => ⟨_, rfl, by dsimp only; rw [if_pos q], hm.2⟩, fun q => ⟨fun q2 => ⟨_, rfl, by dsimp only; rw [if_neg q, if_pos q2], hm.2⟩, fun q2 => ⟨_, rfl, by dsimp only; rw [if_neg q, if_neg q2], hm.2⟩⟩⟩⟩
    | succ c ih =>
      intro i x y z hc hs
      refine K_X11_spot_36 hC hT m _ _ _ _ _ _ ⟨fun q => absurd q (by rw [ef]; exact nI_ge (by omega) (by omega)), fun _ => ?_⟩
      have go := inner m hm i (by omega) (fun x2 y2 z2 g => by rw [nI_1]; exact ih (i + 1) x2 y2 z2 (by omega) g) (min (dn d) (i + 20) - i) 0 x y z (by omega) hs
      rw [nI_1]
      exact go
  have hin : ¬ F_X11_in (nI w) 0 (mem 187 4 - 1) = 0 := by
    rw [hd.wd, in_eq, show (nI (dW d) : Int32) - 1 = nI (dW d - 1) from pk_sub (b := 1) (by omega)]
    exact wi_yes (a := 0) (by omega) (by omega) (by omega)
  refine K_X11_spot_0 hC hT mem _ _ ⟨fun q => absurd q hin, fun _ => ⟨fun q => absurd q hp, fun _ => ⟨_, C_layAll _ hd, fun m hm => outer m hm (dn d) 0 _ _ _ (by omega) rfl⟩⟩⟩
theorem S_spot (l : Launch) (k : Nat) (mem : TMem) (h : INV k mem) (p1 p2 : Int32) : SIM l i_X10_spot 4 107 i_X11_spot 3 72 [.inl p1, .inl p2] (INV (k + 1)) mem := by
  have hX := INV_DX h
  have hM := INV_DM h
  by_cases c1 : F_X10_within p1 0 (nI (dW (dat mem)) - 1) = 0
  · refine ⟨fun x m => x = -2 ∧ m = mem, tw_met (by decide) (Nat.le_of_ble_eq_true rfl) (fun κ hl hC hT => K_X10_spot_0 hC hT mem _ _ ⟨fun _ => ⟨_, rfl, rfl, rfl⟩, fun q => absurd (by rw [hX.wd]; exact c1) q⟩), ?_⟩
    rintro x m1 ⟨rfl, rfl⟩
    refine ⟨fun x m => x = -2 ∧ m = m1, tw_met (by decide) (Nat.le_of_ble_eq_true rfl) (fun κ hl hC hT => K_X11_spot_0 hC hT m1 _ _ ⟨fun _ => ⟨_, rfl, rfl, rfl⟩, fun q => absurd (by rw [hM.wd]; exact c1) q⟩), ?_⟩
    rintro y m2 ⟨rfl, rfl⟩
    exact ⟨rfl, INV_up _ _ h⟩
  by_cases c2 : F_X10_within p2 0 2 = 0
  · refine ⟨fun x m => x = -2 ∧ m = mem, tw_met (by decide) (Nat.le_of_ble_eq_true rfl) (fun κ hl hC hT => K_X10_spot_0 hC hT mem _ _ ⟨fun _ => ⟨_, rfl, rfl, rfl⟩, fun _ => ⟨fun _ => ⟨_, rfl, rfl, rfl⟩, fun q => absurd c2 q⟩⟩), ?_⟩
    rintro x m1 ⟨rfl, rfl⟩
    refine ⟨fun x m => x = -2 ∧ m = m1, tw_met (by decide) (Nat.le_of_ble_eq_true rfl) (fun κ hl hC hT => K_X11_spot_0 hC hT m1 _ _ ⟨fun _ => ⟨_, rfl, rfl, rfl⟩, fun _ => ⟨fun _ => ⟨_, rfl, rfl, rfl⟩, fun q => absurd c2 q⟩⟩), ?_⟩
    rintro y m2 ⟨rfl, rfl⟩
    exact ⟨rfl, INV_up _ _ h⟩
  obtain ⟨w, hw, rfl⟩ := wi_word (by have := hX.w8; omega) c1
  have cX : TMi l i_X10_spot 4 107 [.inr 0, .inl (nI w), .inl p2] mem (fun x m => x = spA (spI (dat mem) w (dn (dat mem))) p2 ∧ ∀ o j, ¬ (181 ≤ o ∧ o < 186) → m o j = mem o j) := by
    refine tw_met (by decide) (Nat.le_of_ble_eq_true rfl) (fun κ hl hC hT => ?_)
    refine K_X10_spot_0 hC hT mem _ _ ⟨fun q => absurd (by rw [← hX.wd]; exact q) c1, fun _ => ⟨fun q => absurd q c2, fun _ => ⟨_, C_find9 _ hX hw, ?_⟩⟩⟩
    rintro x m ⟨g1, g2⟩
    unfold spA
    cases hz : spI (dat mem) w (dn (dat mem)) with
    | none =>
      rw [hz] at g1
      exact ⟨fun _ => ⟨_, rfl, rfl, g2⟩, fun q => absurd g1 q⟩
    | some a =>
      rw [hz] at g1
      obtain ⟨s0, s1, s2, s3⟩ := g1
      rw [s1, s2, s3]
      exact ⟨fun q => absurd (s0.symm.trans q) (by decide), fun _ => ⟨fun q => ⟨_, rfl, by dsimp only; rw [if_pos q], g2⟩, fun q => ⟨fun q2 => ⟨_, rfl, by dsimp only; rw [if_neg q, if_pos q2], g2⟩, fun q2 => ⟨_, rfl, by dsimp only; rw [if_neg q, if_neg q2], g2⟩⟩⟩⟩
  refine ⟨_, cX, ?_⟩
  rintro x m1 ⟨hx, ho⟩
  have hM1 : DM m1 (dat mem) := hM.of (ho 187 0 (by omega)) (ho 187 3 (by omega)) (ho 187 4 (by omega)) (fun o q1 q2 => funext fun j => ho o j (by omega))
  refine ⟨_, C_spotM l hM1 hw c2, ?_⟩
  rintro y m2 ⟨hy, ho2⟩
  have hk : ∀ o j, ¬ scr o j → m2 o j = mem o j := fun o j q => by
    unfold scr at q
    rw [ho2 o j (by omega) (by omega) (by omega), ho o j (by omega)]
  refine ⟨hx.trans hy.symm, INV_sc h hk ?_⟩
  have go : ∀ o, (o < 181 ∨ (186 ≤ o ∧ o < 201)) → m2 o = mem o := fun o q => funext fun j => by rw [ho2 o j (by omega) (by omega) (by omega), ho o j (by omega)]
  obtain ⟨n, W, T, a1, a2, a3, a4, a5, a6, a7, a8, a9, b1, b2, b3⟩ := h
  exact b3.of (dat_sc (fun o q => go o (by omega))) (by rw [go 40 (by omega)]) (by rw [go 40 (by omega)]) (by rw [go 104 (by omega)]) (go 105 (by omega)) (go 42 (by omega))
