/-! SAYING: one step, one run -/
theorem sv {a b st c : Nat} (ha : a ≤ 1000000) (hb : b ≤ 1000000) (hst : st ≤ 20) (hc : c ≤ 50) : imin 1000000 (imin (nI a) (nI b + nI st) + nI c) = nI (sa (min a (b + st)) c) := by
  rw [nI_add, imin_nI (by omega) (by omega), nI_add, show (1000000 : Int32) = nI 1000000 from rfl, imin_nI (by omega) (by omega)]
  rfl
def stp (d : PD) (w v f : Nat) (p : Nat → Nat) (s k : Nat) : Nat := sa (min (if k = 0 then s else p (k - 1)) (p k + dst d)) (dc d (dsd d w v k) f)
def STP (pd : Nat) (d : PD) (w v f : Nat) (p : Nat → Nat) (s : Nat) (mem : TMem) (c : Nat) (m : TMem) : Prop := (∀ j, j < dln d w v → (c ≤ j → m pd j = nI (stp d w v f p s j)) ∧ (j < c → m pd j = nI (p j))) ∧ ∀ o j, ¬ o = pd → m o j = mem o j
def EN (d : PD) (w : Nat) (S : Nat → Nat) (fr to u j : Nat) : Nat := if fr < j ∧ j ≤ to then mn u (fun v => MF d w v S fr (j - fr) (dln d w v - 1)) else 1000000
theorem EN_far (d : PD) (w : Nat) (S : Nat → Nat) (fr to u j : Nat) : EN d w S fr to u j ≤ 1000000 := by
  unfold EN
  split
  · exact mn_far _ _
  · exact Nat.le_refl _
theorem EN_is {d : PD} {w : Nat} {S : Nat → Nat} {fr to j : Nat} (hS : ∀ f, S f ≤ 1000000) (hl : ∀ v, v < dwy d w → 0 < dln d w v) (h1 : fr < j) (h2 : j ≤ to) : EN d w S fr to (dwy d w) j = mn (j - fr) (fun u => sa (S (fr + u)) (OF d w (fr + u) (j - fr - u))) := by
  unfold EN
  rw [if_pos ⟨h1, h2⟩]
  have e : ∀ v, v < dwy d w → MF d w v S fr (j - fr) (dln d w v - 1) = mn (j - fr) (fun u => sa (S (fr + u)) (FW d w v (fr + u) (j - fr - u) (dln d w v))) := fun v hv => by
    rw [K2 d w v S fr hS, show dln d w v - 1 + 1 = dln d w v by have := hl v hv; omega]
  rw [mn_congr e, mn_swap]
  refine mn_congr (fun u _ => ?_)
  unfold OF
  rw [sa_mnR]
/-- ends while way v is said up to frame fr + t -/
def RUN (en pd : Nat) (d : PD) (w v fr to : Nat) (S : Nat → Nat) (mem : TMem) (t : Nat) (m : TMem) : Prop := (∀ j, j ≤ 40 → m en j = nI (EN d w S fr to (if j ≤ fr + t then v + 1 else v) j)) ∧ (∀ k, k < dln d w v → m pd k = nI (MF d w v S fr t k)) ∧ ∀ o j, ¬ o = en → ¬ o = pd → m o j = mem o j
set_option maxRecDepth 100000 in
theorem C_step_100 (l : Launch) {mem : TMem} {d : PD} {w v f s : Nat} {p : Nat → Nat} (hd : DX mem d) (hw : w < dW d) (hv : v < dwy d w) (hf : f < dn d) (hp : ∀ k, k < dln d w v → mem 103 k = nI (p k) ∧ p k ≤ 1000000) (hs : mem 101 f = nI s) (hs1 : s ≤ 1000000) : TMv l i_X8_step 1 23 [.inr 100, .inr 1, .inr 10, .inl (nI w), .inl (nI v), .inl (nI f)] mem (STP 103 d w v f p s mem 0) := by
  refine tw_met (by decide) (Nat.le_of_ble_eq_true rfl) (fun κ hl hC hT => ?_)
  have h40 := hd.n40
  have h8 := hd.w8
  have hwy := hd.wy w hw
  have hln := hd.ln w v hw hv
  have key : ∀ c m, c ≤ dln d w v → STP 103 d w v f p s mem c m → WT κ 11 [some (.inr 100), some (.inr 1), some (.inr 10), some (.inl (nI w)), some (.inl (nI v)), some (.inl (nI f)), some (.inl (nI c + (-1))), none, none] [] m := by
    intro c
    induction c with
    | zero =>
      intro m _ hm
      exact K_X8_step_100_1_10_11 hC hT m _ _ _ _ ⟨fun _ => ⟨rfl, hm⟩, fun q => absurd (by decide) q⟩
    | succ c ih =>
      intro m hc hm
      have hdm : DX m d := hd.of (fun o ho => funext fun j => hm.2 o j (by omega))
      obtain ⟨g1, g2⟩ := hdm.sd w v c hw hv (by omega)
      obtain ⟨c1, c2, c3⟩ := hdm.co (dsd d w v c) f g1 hf
      have ep := (hp c (by omega)).2
      have next : ∀ x, x = nI (stp d w v f p s c) → WT κ 11 [some (.inr 100), some (.inr 1), some (.inr 10), some (.inl (nI w)), some (.inl (nI v)), some (.inl (nI f)), some (.inl (nI c + (-1))), none, none] [] (mset m 103 c x) := fun x hx => by
        refine ih _ (by omega) ⟨fun j hj => ?_, fun o j ho => by rw [ms_ne ho]; exact hm.2 o j ho⟩
        by_cases e : j = c
        · subst e
          rw [ms_eq]
          exact ⟨fun _ => hx, fun z => absurd z (by omega)⟩
        · rw [ms_sl e]
          exact ⟨fun z => (hm.1 j hj).1 (by omega), fun z => (hm.1 j hj).2 (by omega)⟩
      rw [pk_m1]
      refine K_X8_step_100_1_10_11 hC hT m _ _ _ _ ⟨fun q => absurd q (nI_pos (by omega)), fun _ => ?_⟩
      unfold G_X5_soundOf
      rw [sm_ix, nI_clamp (n := 2 * w + v) (by omega), nI_clamp (n := c) (by omega), g2, nI_clamp (n := f) (by omega), c2, hdm.st, (hm.1 c (by omega)).2 (by omega), hm.2 101 f (by omega), hs]
      have gs : vp_in (nI (2 * w + v)) 16 ∧ vp_in (nI c) 4 := ⟨vp_in_nI (by omega) (by omega), vp_in_nI (by omega) (by omega)⟩
      refine ⟨fun q => ?_, fun q => ?_⟩
      · have c0 : c = 0 := (nI_eq (b := 0) (by omega) (by omega)).mp q
        subst c0
        refine ⟨vp_in_nI (by omega) (by omega), gs.2, gs, c1, next _ ?_⟩
        rw [sv hs1 ep hd.s20 c3]
        rfl
      · obtain ⟨b, rfl⟩ : ∃ b, c = b + 1 := ⟨c - 1, by have : c ≠ 0 := fun z => q (by rw [z]; rfl); omega⟩
        rw [nI_pred, nI_clamp (n := b) (by omega), (hm.1 b (by omega)).2 (by omega)]
        refine ⟨vp_in_nI (by omega) (by omega), gs.2, gs, c1, next _ ?_⟩
        rw [sv (hp b (by omega)).2 ep hd.s20 c3]
        rfl
  refine K_X8_step_100_1_10_0 hC hT mem _ _ _ ?_
  unfold G_X5_lengthOf
  rw [sm_ix, nI_clamp (n := 2 * w + v) (by omega), hln.2.2, Int32.sub_eq_add_neg]
  exact ⟨vp_in_nI (by omega) (by omega), key _ mem (Nat.le_refl _) ⟨fun j hj => ⟨fun z => absurd z (by omega), fun _ => (hp j hj).1⟩, fun _ _ _ => rfl⟩⟩
set_option maxRecDepth 100000 in
theorem C_run_100 (l : Launch) {mem : TMem} {d : PD} {w fr to : Nat} {S : Nat → Nat} (hd : DX mem d) (hw : w < dW d) (hft : fr ≤ to) (hto : to ≤ dn d) (hS : ∀ f, fr ≤ f → f < to → mem 101 f = nI (S f)) (hS1 : ∀ f, S f ≤ 1000000) : TMv l i_X8_run 2 51 [.inr 100, .inr 1, .inr 10, .inl (nI w), .inl (nI fr), .inl (nI to)] mem (fun m => (∀ j, j ≤ 40 → m 102 j = nI (EN d w S fr to (dwy d w) j)) ∧ ∀ o j, ¬ o = 102 → ¬ o = 103 → m o j = mem o j) := by
  refine tw_met (by decide) (Nat.le_of_ble_eq_true rfl) (fun κ hl hC hT => ?_)
  have h40 := hd.n40
  have h8 := hd.w8
  have hwy := hd.wy w hw
  have inner : ∀ v, v < dwy d w → (∀ m, (∀ j, j ≤ 40 → m 102 j = nI (EN d w S fr to (v + 1) j)) → (∀ o j, ¬ o = 102 → ¬ o = 103 → m o j = mem o j) → WT κ 12 [some (.inr 100), some (.inr 1), some (.inr 10), some (.inl (nI w)), some (.inl (nI fr)), some (.inl (nI to)), some (.inl (nI v + 1)), none, none] [] m) → ∀ i t m, i + (fr + t) = to → RUN 102 103 d w v fr to S mem t m → WT κ 46 [some (.inr 100), some (.inr 1), some (.inr 10), some (.inl (nI w)), some (.inl (nI fr)), some (.inl (nI to)), some (.inl (nI v)), some (.inl (nI (dln d w v - 1))), some (.inl (nI (fr + t)))] [] m := by
    intro v hv next i
    have hln := hd.ln w v hw hv
    induction i with
    | zero =>
      intro t m ht hm
      refine K_X8_run_100_1_10_46 hC hT m _ _ _ _ _ _ ⟨fun _ => next m (fun j hj => ?_) hm.2.2, fun q => absurd (nI_le (by omega) (by omega)) q⟩
      rw [hm.1 j hj]
      congr 1
      by_cases e : j ≤ fr + t
      · rw [if_pos e]
      · rw [if_neg e]
        unfold EN
        rw [if_neg (by omega), if_neg (by omega)]
    | succ i ih =>
      intro t m ht hm
      have hdm : DX m d := hd.of (fun o ho => funext fun j => hm.2.2 o j (by omega) (by omega))
      refine K_X8_run_100_1_10_46 hC hT m _ _ _ _ _ _ ⟨fun q => absurd q (nI_ge (by omega) (by omega)), fun _ => ?_⟩
      refine ⟨_, C_step_100 _ (p := MF d w v S fr t) hdm hw hv (by omega) (fun k hk => ⟨hm.2.1 k hk, MF_far _ _ _ _ _ _ _⟩) (by rw [hm.2.2 101 _ (by omega) (by omega)]; exact hS _ (by omega) (by omega)) (hS1 _), fun m3 h3 => ?_⟩
      rw [nI_1, nI_clamp (n := fr + t + 1) (by omega), nI_clamp (n := dln d w v - 1) (by omega), h3.2 102 _ (by omega), hm.1 _ (by omega), (h3.1 (dln d w v - 1) (by omega)).1 (by omega)]
      have hst : ∀ k, stp d w v (fr + t) (MF d w v S fr t) (S (fr + t)) k = MF d w v S fr (t + 1) k := fun k => by
        unfold stp; rw [MF_s]
      rw [hst, if_neg (show ¬ fr + t + 1 ≤ fr + t by omega), imin_nI (by have := EN_far d w S fr to v (fr + t + 1); omega) (by have := MF_far d w v S fr (t + 1) (dln d w v - 1); omega)]
      refine ⟨vp_in_nI (by omega) (by omega), vp_in_nI (by omega) (by omega), ih (t + 1) _ (by omega) ⟨fun j hj => ?_, fun k hk => ?_, fun o j h1 h2 => by rw [ms_ne h1, h3.2 o j h2]; exact hm.2.2 o j h1 h2⟩⟩
      · by_cases e : j = fr + t + 1
        · subst e
          rw [ms_eq, if_pos (by omega)]
          congr 1
          unfold EN
          rw [if_pos (by omega), if_pos (by omega), show fr + t + 1 - fr = t + 1 by omega]
          rfl
        · rw [ms_sl e, h3.2 102 j (by omega), hm.1 j hj]
          by_cases e2 : j ≤ fr + t
          · rw [if_pos e2, if_pos (by omega)]
          · rw [if_neg e2, if_neg (by omega)]
      · rw [ms_ne (by omega), (h3.1 k hk).1 (by omega), hst]
  have outer : ∀ i v m, i + v = dwy d w → (∀ j, j ≤ 40 → m 102 j = nI (EN d w S fr to v j)) → (∀ o j, ¬ o = 102 → ¬ o = 103 → m o j = mem o j) → WT κ 12 [some (.inr 100), some (.inr 1), some (.inr 10), some (.inl (nI w)), some (.inl (nI fr)), some (.inl (nI to)), some (.inl (nI v)), none, none] [] m := by
    intro i
    induction i with
    | zero =>
      intro v m hv hm ho
      have hdm : DX m d := hd.of (fun o h => funext fun j => ho o j (by omega) (by omega))
      have : v = dwy d w := by omega
      subst this
      refine K_X8_run_100_1_10_12 hC hT m _ _ _ _ ?_
      rw [nI_clamp (n := w) (by omega), (hdm.wy w hw).2.2]
      exact ⟨vp_in_nI (by omega) (by omega), fun _ => ⟨rfl, hm, ho⟩, fun q => absurd (nI_le (Nat.le_refl _) (by omega)) q⟩
    | succ i ih =>
      intro v m hv hm ho
      have hdm : DX m d := hd.of (fun o h => funext fun j => ho o j (by omega) (by omega))
      have hln := hdm.ln w v hw (by omega)
      refine K_X8_run_100_1_10_12 hC hT m _ _ _ _ ?_
      unfold G_X5_lengthOf
      rw [nI_clamp (n := w) (by omega), (hdm.wy w hw).2.2, sm_ix, nI_clamp (n := 2 * w + v) (by omega), hln.2.2, show (nI (dln d w v) : Int32) - 1 = nI (dln d w v - 1) from pk_sub (b := 1) hln.1]
      refine ⟨vp_in_nI (by omega) (by omega), fun q => absurd q (nI_ge (by omega) (by omega)), fun _ => ⟨vp_in_nI (by omega) (by omega), _, C_fillT _ (n := 4) (by decide +kernel) (by omega), ?_⟩⟩
      rintro m3 rfl
      refine inner v (by omega) (fun m4 h4 h5 => ?_) (to - fr) 0 _ (by omega) ⟨fun j hj => ?_, fun k hk => ?_, fun o j h1 h2 => by rw [mfill_o h2]; exact ho o j h1 h2⟩
      · rw [nI_1]
        exact ih (v + 1) m4 (by omega) h4 h5
      · rw [mfill_o (by omega), hm j hj]
        congr 1
        by_cases e : j ≤ fr + 0
        · unfold EN
          rw [if_neg (by omega), if_neg (by omega)]
        · rw [if_neg e]
      · rw [mfill_at (by omega)]
        rfl
  refine K_X8_run_100_1_10_0 hC hT mem _ _ _ ⟨_, C_fillT _ (n := 41) (by decide +kernel) (by omega), ?_⟩
  rintro m3 rfl
  refine outer (dwy d w) 0 _ (by omega) (fun j hj => ?_) (fun o j h1 h2 => mfill_o h1)
  rw [mfill_at (by omega)]
  unfold EN
  split <;> rfl
set_option maxRecDepth 100000 in
theorem C_step_182 (l : Launch) {mem : TMem} {d : PD} {w v f s : Nat} {p : Nat → Nat} (hd : DX mem d) (hw : w < dW d) (hv : v < dwy d w) (hf : f < dn d) (hp : ∀ k, k < dln d w v → mem 185 k = nI (p k) ∧ p k ≤ 1000000) (hs : mem 183 f = nI s) (hs1 : s ≤ 1000000) : TMv l i_X8_step 1 23 [.inr 182, .inr 1, .inr 10, .inl (nI w), .inl (nI v), .inl (nI f)] mem (STP 185 d w v f p s mem 0) := by
  refine tw_met (by decide) (Nat.le_of_ble_eq_true rfl) (fun κ hl hC hT => ?_)
  have h40 := hd.n40
  have h8 := hd.w8
  have hwy := hd.wy w hw
  have hln := hd.ln w v hw hv
  have key : ∀ c m, c ≤ dln d w v → STP 185 d w v f p s mem c m → WT κ 11 [some (.inr 182), some (.inr 1), some (.inr 10), some (.inl (nI w)), some (.inl (nI v)), some (.inl (nI f)), some (.inl (nI c + (-1))), none, none] [] m := by
    intro c
    induction c with
    | zero =>
      intro m _ hm
      exact K_X8_step_182_1_10_11 hC hT m _ _ _ _ ⟨fun _ => ⟨rfl, hm⟩, fun q => absurd (by decide) q⟩
    | succ c ih =>
      intro m hc hm
      have hdm : DX m d := hd.of (fun o ho => funext fun j => hm.2 o j (by omega))
      obtain ⟨g1, g2⟩ := hdm.sd w v c hw hv (by omega)
      obtain ⟨c1, c2, c3⟩ := hdm.co (dsd d w v c) f g1 hf
      have ep := (hp c (by omega)).2
      have next : ∀ x, x = nI (stp d w v f p s c) → WT κ 11 [some (.inr 182), some (.inr 1), some (.inr 10), some (.inl (nI w)), some (.inl (nI v)), some (.inl (nI f)), some (.inl (nI c + (-1))), none, none] [] (mset m 185 c x) := fun x hx => by
        refine ih _ (by omega) ⟨fun j hj => ?_, fun o j ho => by rw [ms_ne ho]; exact hm.2 o j ho⟩
        by_cases e : j = c
        · subst e
          rw [ms_eq]
          exact ⟨fun _ => hx, fun z => absurd z (by omega)⟩
        · rw [ms_sl e]
          exact ⟨fun z => (hm.1 j hj).1 (by omega), fun z => (hm.1 j hj).2 (by omega)⟩
      rw [pk_m1]
      refine K_X8_step_182_1_10_11 hC hT m _ _ _ _ ⟨fun q => absurd q (nI_pos (by omega)), fun _ => ?_⟩
      unfold G_X5_soundOf
      rw [sm_ix, nI_clamp (n := 2 * w + v) (by omega), nI_clamp (n := c) (by omega), g2, nI_clamp (n := f) (by omega), c2, hdm.st, (hm.1 c (by omega)).2 (by omega), hm.2 183 f (by omega), hs]
      have gs : vp_in (nI (2 * w + v)) 16 ∧ vp_in (nI c) 4 := ⟨vp_in_nI (by omega) (by omega), vp_in_nI (by omega) (by omega)⟩
      refine ⟨fun q => ?_, fun q => ?_⟩
      · have c0 : c = 0 := (nI_eq (b := 0) (by omega) (by omega)).mp q
        subst c0
        refine ⟨vp_in_nI (by omega) (by omega), gs.2, gs, c1, next _ ?_⟩
        rw [sv hs1 ep hd.s20 c3]
        rfl
      · obtain ⟨b, rfl⟩ : ∃ b, c = b + 1 := ⟨c - 1, by have : c ≠ 0 := fun z => q (by rw [z]; rfl); omega⟩
        rw [nI_pred, nI_clamp (n := b) (by omega), (hm.1 b (by omega)).2 (by omega)]
        refine ⟨vp_in_nI (by omega) (by omega), gs.2, gs, c1, next _ ?_⟩
        rw [sv (hp b (by omega)).2 ep hd.s20 c3]
        rfl
  refine K_X8_step_182_1_10_0 hC hT mem _ _ _ ?_
  unfold G_X5_lengthOf
  rw [sm_ix, nI_clamp (n := 2 * w + v) (by omega), hln.2.2, Int32.sub_eq_add_neg]
  exact ⟨vp_in_nI (by omega) (by omega), key _ mem (Nat.le_refl _) ⟨fun j hj => ⟨fun z => absurd z (by omega), fun _ => (hp j hj).1⟩, fun _ _ _ => rfl⟩⟩
set_option maxRecDepth 100000 in
theorem C_run_182 (l : Launch) {mem : TMem} {d : PD} {w fr to : Nat} {S : Nat → Nat} (hd : DX mem d) (hw : w < dW d) (hft : fr ≤ to) (hto : to ≤ dn d) (hS : ∀ f, fr ≤ f → f < to → mem 183 f = nI (S f)) (hS1 : ∀ f, S f ≤ 1000000) : TMv l i_X8_run 2 51 [.inr 182, .inr 1, .inr 10, .inl (nI w), .inl (nI fr), .inl (nI to)] mem (fun m => (∀ j, j ≤ 40 → m 184 j = nI (EN d w S fr to (dwy d w) j)) ∧ ∀ o j, ¬ o = 184 → ¬ o = 185 → m o j = mem o j) := by
  refine tw_met (by decide) (Nat.le_of_ble_eq_true rfl) (fun κ hl hC hT => ?_)
  have h40 := hd.n40
  have h8 := hd.w8
  have hwy := hd.wy w hw
  have inner : ∀ v, v < dwy d w → (∀ m, (∀ j, j ≤ 40 → m 184 j = nI (EN d w S fr to (v + 1) j)) → (∀ o j, ¬ o = 184 → ¬ o = 185 → m o j = mem o j) → WT κ 12 [some (.inr 182), some (.inr 1), some (.inr 10), some (.inl (nI w)), some (.inl (nI fr)), some (.inl (nI to)), some (.inl (nI v + 1)), none, none] [] m) → ∀ i t m, i + (fr + t) = to → RUN 184 185 d w v fr to S mem t m → WT κ 46 [some (.inr 182), some (.inr 1), some (.inr 10), some (.inl (nI w)), some (.inl (nI fr)), some (.inl (nI to)), some (.inl (nI v)), some (.inl (nI (dln d w v - 1))), some (.inl (nI (fr + t)))] [] m := by
    intro v hv next i
    have hln := hd.ln w v hw hv
    induction i with
    | zero =>
      intro t m ht hm
      refine K_X8_run_182_1_10_46 hC hT m _ _ _ _ _ _ ⟨fun _ => next m (fun j hj => ?_) hm.2.2, fun q => absurd (nI_le (by omega) (by omega)) q⟩
      rw [hm.1 j hj]
      congr 1
      by_cases e : j ≤ fr + t
      · rw [if_pos e]
      · rw [if_neg e]
        unfold EN
        rw [if_neg (by omega), if_neg (by omega)]
    | succ i ih =>
      intro t m ht hm
      have hdm : DX m d := hd.of (fun o ho => funext fun j => hm.2.2 o j (by omega) (by omega))
      refine K_X8_run_182_1_10_46 hC hT m _ _ _ _ _ _ ⟨fun q => absurd q (nI_ge (by omega) (by omega)), fun _ => ?_⟩
      refine ⟨_, C_step_182 _ (p := MF d w v S fr t) hdm hw hv (by omega) (fun k hk => ⟨hm.2.1 k hk, MF_far _ _ _ _ _ _ _⟩) (by rw [hm.2.2 183 _ (by omega) (by omega)]; exact hS _ (by omega) (by omega)) (hS1 _), fun m3 h3 => ?_⟩
      rw [nI_1, nI_clamp (n := fr + t + 1) (by omega), nI_clamp (n := dln d w v - 1) (by omega), h3.2 184 _ (by omega), hm.1 _ (by omega), (h3.1 (dln d w v - 1) (by omega)).1 (by omega)]
      have hst : ∀ k, stp d w v (fr + t) (MF d w v S fr t) (S (fr + t)) k = MF d w v S fr (t + 1) k := fun k => by
        unfold stp; rw [MF_s]
      rw [hst, if_neg (show ¬ fr + t + 1 ≤ fr + t by omega), imin_nI (by have := EN_far d w S fr to v (fr + t + 1); omega) (by have := MF_far d w v S fr (t + 1) (dln d w v - 1); omega)]
      refine ⟨vp_in_nI (by omega) (by omega), vp_in_nI (by omega) (by omega), ih (t + 1) _ (by omega) ⟨fun j hj => ?_, fun k hk => ?_, fun o j h1 h2 => by rw [ms_ne h1, h3.2 o j h2]; exact hm.2.2 o j h1 h2⟩⟩
      · by_cases e : j = fr + t + 1
        · subst e
          rw [ms_eq, if_pos (by omega)]
          congr 1
          unfold EN
          rw [if_pos (by omega), if_pos (by omega), show fr + t + 1 - fr = t + 1 by omega]
          rfl
        · rw [ms_sl e, h3.2 184 j (by omega), hm.1 j hj]
          by_cases e2 : j ≤ fr + t
          · rw [if_pos e2, if_pos (by omega)]
          · rw [if_neg e2, if_neg (by omega)]
      · rw [ms_ne (by omega), (h3.1 k hk).1 (by omega), hst]
  have outer : ∀ i v m, i + v = dwy d w → (∀ j, j ≤ 40 → m 184 j = nI (EN d w S fr to v j)) → (∀ o j, ¬ o = 184 → ¬ o = 185 → m o j = mem o j) → WT κ 12 [some (.inr 182), some (.inr 1), some (.inr 10), some (.inl (nI w)), some (.inl (nI fr)), some (.inl (nI to)), some (.inl (nI v)), none, none] [] m := by
    intro i
    induction i with
    | zero =>
      intro v m hv hm ho
      have hdm : DX m d := hd.of (fun o h => funext fun j => ho o j (by omega) (by omega))
      have : v = dwy d w := by omega
      subst this
      refine K_X8_run_182_1_10_12 hC hT m _ _ _ _ ?_
      rw [nI_clamp (n := w) (by omega), (hdm.wy w hw).2.2]
      exact ⟨vp_in_nI (by omega) (by omega), fun _ => ⟨rfl, hm, ho⟩, fun q => absurd (nI_le (Nat.le_refl _) (by omega)) q⟩
    | succ i ih =>
      intro v m hv hm ho
      have hdm : DX m d := hd.of (fun o h => funext fun j => ho o j (by omega) (by omega))
      have hln := hdm.ln w v hw (by omega)
      refine K_X8_run_182_1_10_12 hC hT m _ _ _ _ ?_
      unfold G_X5_lengthOf
      rw [nI_clamp (n := w) (by omega), (hdm.wy w hw).2.2, sm_ix, nI_clamp (n := 2 * w + v) (by omega), hln.2.2, show (nI (dln d w v) : Int32) - 1 = nI (dln d w v - 1) from pk_sub (b := 1) hln.1]
      refine ⟨vp_in_nI (by omega) (by omega), fun q => absurd q (nI_ge (by omega) (by omega)), fun _ => ⟨vp_in_nI (by omega) (by omega), _, C_fillT _ (n := 4) (by decide +kernel) (by omega), ?_⟩⟩
      rintro m3 rfl
      refine inner v (by omega) (fun m4 h4 h5 => ?_) (to - fr) 0 _ (by omega) ⟨fun j hj => ?_, fun k hk => ?_, fun o j h1 h2 => by rw [mfill_o h2]; exact ho o j h1 h2⟩
      · rw [nI_1]
        exact ih (v + 1) m4 (by omega) h4 h5
      · rw [mfill_o (by omega), hm j hj]
        congr 1
        by_cases e : j ≤ fr + 0
        · unfold EN
          rw [if_neg (by omega), if_neg (by omega)]
        · rw [if_neg e]
      · rw [mfill_at (by omega)]
        rfl
  refine K_X8_run_182_1_10_0 hC hT mem _ _ _ ⟨_, C_fillT _ (n := 41) (by decide +kernel) (by omega), ?_⟩
  rintro m3 rfl
  refine outer (dwy d w) 0 _ (by omega) (fun j hj => ?_) (fun o j h1 h2 => mfill_o h1)
  rw [mfill_at (by omega)]
  unfold EN
  split <;> rfl
