/-! THE REFERENCE: layOn, layAll -/
theorem ixI {w i j : Nat} : ((41 * nI w + nI i) * 41 + nI j : Int32) = nI ((41 * w + i) * 41 + j) := by
  rw [show (41 : Int32) = nI 41 from rfl, pk_mul, nI_add, pk_mul, nI_add]
theorem lv3 {a b st c : Nat} (ha : a ≤ 1000000) (hb : b ≤ 1000000) (hst : st ≤ 20) (hc : c ≤ 50) : F_X11_lesser 1000000 (F_X11_lesser (nI a + nI st) (nI b) + nI c) = nI (sa (min (a + st) b) c) := by
  rw [nI_add, lesser_nI (by omega) (by omega), nI_add, show (1000000 : Int32) = nI 1000000 from rfl, lesser_nI (by omega) (by omega)]
  rfl
def LON (d : PD) (w v i : Nat) (x : Nat → Nat) (mem : TMem) (t : Nat) (m : TMem) : Prop := (∀ j, i < j → j ≤ i + t → m 201 ((41 * w + i) * 41 + j) = nI (min (x j) (FW d w v i (j - i) (dln d w v)))) ∧ (∀ q, (q ≤ (41 * w + i) * 41 + i ∨ (41 * w + i) * 41 + (i + t) < q) → m 201 q = mem 201 q) ∧ ∀ o j, ¬ o = 201 → ¬ o = 202 → ¬ o = 203 → m o j = mem o j
theorem LON.ms {d : PD} {w v i : Nat} {x : Nat → Nat} {mem : TMem} {t : Nat} {m : TMem} (h : LON d w v i x mem t m) {o k : Nat} {y : Int32} (ho : o = 202 ∨ o = 203) : LON d w v i x mem t (mset m o k y) :=
  ⟨fun j h1 h2 => by rw [ms_ne (by omega)]; exact h.1 j h1 h2, fun q hq => by rw [ms_ne (by omega)]; exact h.2.1 q hq, fun o2 j h1 h2 h3 => by rw [ms_ne (by omega)]; exact h.2.2 o2 j h1 h2 h3⟩
theorem LON.dm {d : PD} {w v i : Nat} {x : Nat → Nat} {mem : TMem} {t : Nat} {m : TMem} (h : LON d w v i x mem t m) (hd : DM mem d) : DM m d :=
  hd.of (h.2.2 187 0 (by omega) (by omega) (by omega)) (h.2.2 187 3 (by omega) (by omega) (by omega)) (h.2.2 187 4 (by omega) (by omega) (by omega)) (fun o h1 h2 => funext fun j => h.2.2 o j (by omega) (by omega) (by omega))
set_option maxRecDepth 100000 in
theorem C_layOn (l : Launch) {mem : TMem} {d : PD} {w v i : Nat} {x : Nat → Nat} (hd : DM mem d) (hw : w < dW d) (hv : v < dwy d w) (hi : i < dn d) (hx : ∀ j, i < j → j ≤ dn d → mem 201 ((41 * w + i) * 41 + j) = nI (x j) ∧ x j ≤ 1000000) : TMv l i_X11_layOn 1 22 [.inr 187, .inl (nI w), .inl (nI v), .inl (nI i)] mem (LON d w v i x mem (dn d - i)) := by
  refine tw_met (by decide) (Nat.le_of_ble_eq_true rfl) (fun κ hl hC hT => ?_)
  have h40 := hd.n40
  have h8 := hd.w8
  have hwy := hd.wy w hw
  have hln := hd.ln w v hw hv
  have fill : ∀ t m, LON d w v i x mem t m → i + t + 1 ≤ dn d → (∀ m2, LON d w v i x mem (t + 1) m2 → (∀ k, k ≤ dln d w v → m2 202 k = nI (FW d w v i (t + 1) k)) → WT κ 45 [some (.inr 187), some (.inl (nI w)), none, some (.inl (nI i)), some (.inl (nI (2 * w + v))), some (.inl (nI (i + t + 1) + 1)), none, none] [] m2) →
      ∀ c s m, c + s = dln d w v → LON d w v i x mem t m → (∀ k, k ≤ dln d w v → m 203 k = nI (FW d w v i t k)) → (∀ k, k ≤ s → m 202 k = nI (FW d w v i (t + 1) k)) → WT κ 95 [some (.inr 187), some (.inl (nI w)), none, some (.inl (nI i)), some (.inl (nI (2 * w + v))), some (.inl (nI (i + t + 1))), some (.inl (nI (s + 1))), none] [] m := by
    intro t m0 hm0 ht next c
    induction c with
    | zero =>
      intro s m hc hm h3 h2
      have hs : s = dln d w v := by omega
      subst hs
      have hdm := hm.dm hd
      have hlm := hdm.ln w v hw hv
      obtain ⟨x1, x2⟩ := hx (i + t + 1) (by omega) (by omega)
      refine K_X11_layOn_95 hC hT m _ _ _ _ _ ?_
      rw [nI_clamp (n := 2 * w + v) (by omega), hlm.2.2, ixI, nI_clamp (n := (41 * w + i) * 41 + (i + t + 1)) (by omega), nI_clamp (n := dln d w v) (by omega), h2 _ (Nat.le_refl _), hm.2.1 _ (by omega), x1, lesser_nI (by omega) (by have := FW_far d w v i (t + 1) (dln d w v); omega)]
      refine ⟨vp_in_nI (by omega) (by omega), fun _ => ⟨vp_in_nI (by omega) (by omega), vp_in_nI (by omega) (by omega), next _ ⟨fun j h4 h5 => ?_, fun q hq => by rw [ms_sl (by omega)]; exact hm.2.1 q (by omega), fun o j h4 h5 h6 => by rw [ms_ne h4]; exact hm.2.2 o j h4 h5 h6⟩ (fun k hk => by rw [ms_ne (by omega)]; exact h2 k hk)⟩, fun q => absurd (nI_lt (by omega) (by omega)) q⟩
      by_cases e : j = i + t + 1
      · subst e
        rw [ms_eq, show i + t + 1 - i = t + 1 by omega]
      · rw [ms_sl (by omega)]
        exact hm.1 j h4 (by omega)
    | succ c ih =>
      intro s m hc hm h3 h2
      have hdm := hm.dm hd
      have hlm := hdm.ln w v hw hv
      obtain ⟨g1, g2⟩ := hdm.sd w v s hw hv (by omega)
      obtain ⟨c1, c2, c3⟩ := hdm.co (dsd d w v s) (i + t) g1 (by omega)
      refine K_X11_layOn_95 hC hT m _ _ _ _ _ ?_
      have e4 : (4 : Int32) * nI (2 * w + v) + nI (s + 1) - 1 = nI (4 * (2 * w + v) + s) := by
        rw [show (4 : Int32) = nI 4 from rfl, pk_mul, nI_add, ← Nat.add_assoc, nI_pred]
      have es : nI (s + 1) - 1 = nI s := nI_pred s
      have et : nI (i + t + 1) - 1 = nI (i + t) := nI_pred _
      rw [nI_clamp (n := 2 * w + v) (by omega), hlm.2.2, e4, es, et, nI_clamp (n := 4 * (2 * w + v) + s) (by omega), nI_clamp (n := s + 1) (by omega), nI_clamp (n := s) (by omega), g2, c2, hdm.st, h3 _ (by omega), h3 _ (by omega), lv3 (FW_far _ _ _ _ _ _) (FW_far _ _ _ _ _ _) hd.s20 c3, ← FW_s, nI_1 (s + 1)]
      refine ⟨vp_in_nI (by omega) (by omega), fun q => absurd q (nI_nlt (by omega) (by omega)), fun _ => ⟨vp_in_nI (by omega) (by omega), vp_in_nI (by omega) (by omega), vp_in_nI (by omega) (by omega), c1, ?_⟩⟩
      refine ih (s + 1) _ (by omega) (hm.ms (Or.inl rfl)) (fun k hk => by rw [ms_ne (by omega)]; exact h3 k hk) (fun k hk => ?_)
      by_cases e : k = s + 1
      · subst e; rw [ms_eq]
      · rw [ms_sl e]; exact h2 k (by omega)
  have copy : ∀ t (g : Nat → Int32), i + t + 1 ≤ dn d → (∀ m2, LON d w v i x mem t m2 → (∀ k, k < 5 → m2 203 k = g k) → (∀ k, k < 5 → m2 202 k = 1000000) → WT κ 95 [some (.inr 187), some (.inl (nI w)), none, some (.inl (nI i)), some (.inl (nI (2 * w + v))), some (.inl (nI (i + t + 1))), some (.inl 1), none] [] m2) →
      ∀ c s m, c + s = 5 → LON d w v i x mem t m → (∀ k, k < s → m 203 k = g k) → (∀ k, k < s → m 202 k = 1000000) → (∀ k, k < 5 → s ≤ k → m 202 k = g k) → WT κ 57 [some (.inr 187), some (.inl (nI w)), none, some (.inl (nI i)), some (.inl (nI (2 * w + v))), some (.inl (nI (i + t + 1))), some (.inl (nI s)), none] [] m := by
    intro t g ht next c
    induction c with
    | zero =>
      intro s m hc hm h3 h2 _
      have hs : s = 5 := by omega
      subst hs
      exact K_X11_layOn_57 hC hT m _ _ _ _ _ ⟨fun _ => next m hm h3 h2, fun q => absurd (by decide) q⟩
    | succ c ih =>
      intro s m hc hm h3 h2 h4
      refine K_X11_layOn_57 hC hT m _ _ _ _ _ ⟨fun q => absurd q (nI_ge (b := 5) (by omega) (by omega)), fun _ => ⟨vp_in_nI (by omega) (by omega), ?_⟩⟩
      rw [nI_clamp (n := s) (by omega), nI_1]
      refine ih (s + 1) _ (by omega) ((hm.ms (Or.inr rfl)).ms (Or.inl rfl)) (fun k hk => ?_) (fun k hk => ?_) (fun k hk hk2 => ?_)
      · rw [ms_ne (by omega)]
        by_cases e : k = s
        · subst e; rw [ms_eq]; exact h4 k (by omega) (by omega)
        · rw [ms_sl e]; exact h3 k (by omega)
      · by_cases e : k = s
        · subst e; rw [ms_eq]
        · rw [ms_sl e, ms_ne (by omega)]; exact h2 k (by omega)
      · rw [ms_sl (by omega), ms_ne (by omega)]; exact h4 k hk (by omega)
  have main : ∀ c t m, c + (i + t) = dn d → LON d w v i x mem t m → (∀ k, k ≤ dln d w v → m 202 k = nI (FW d w v i t k)) → WT κ 45 [some (.inr 187), some (.inl (nI w)), none, some (.inl (nI i)), some (.inl (nI (2 * w + v))), some (.inl (nI (i + t + 1))), none, none] [] m := by
    intro c
    induction c with
    | zero =>
      intro t m hc hm h2
      have hdm := hm.dm hd
      refine K_X11_layOn_45 hC hT m _ _ _ _ ⟨fun _ => ⟨rfl, ?_⟩, fun q => absurd (by rw [hdm.fr]; exact nI_lt (by omega) (by omega)) q⟩
      rw [show dn d - i = t by omega]
      exact hm
    | succ c ih =>
      intro t m hc hm h2
      have hdm := hm.dm hd
      refine K_X11_layOn_45 hC hT m _ _ _ _ ⟨fun q => absurd q (by rw [hdm.fr]; exact nI_nlt (by omega) (by omega)), fun _ => ?_⟩
      refine copy t (m 202) (by omega) (fun m2 z1 z2 z3 => ?_) 5 0 m (by omega) hm (fun k hk => by omega) (fun k hk => by omega) (fun k _ _ => rfl)
      refine fill t m2 z1 (by omega) (fun m3 y1 y2 => ?_) (dln d w v) 0 m2 (by omega) z1 (fun k hk => ?_) (fun k hk => ?_)
      · rw [nI_1]
        exact ih (t + 1) m3 (by omega) y1 y2
      · rw [z2 k (by omega)]; exact h2 k hk
      · have : k = 0 := by omega
        subst this
        rw [z3 0 (by omega)]
        rfl
  have init : ∀ c s m, c + s = 5 → LON d w v i x mem 0 m → (∀ k, k < s → m 202 k = nI (FW d w v i 0 k)) → WT κ 10 [some (.inr 187), some (.inl (nI w)), none, some (.inl (nI i)), some (.inl (nI (2 * w + v))), some (.inl (nI s)), none, none] [] m := by
    intro c
    induction c with
    | zero =>
      intro s m hc hm h2
      have hs : s = 5 := by omega
      subst hs
      refine K_X11_layOn_10 hC hT m _ _ _ _ ⟨fun _ => ?_, fun q => absurd (by decide) q⟩
      rw [nI_1]
      exact main (dn d - i) 0 m (by omega) hm (fun k hk => h2 k (by omega))
    | succ c ih =>
      intro s m hc hm h2
      refine K_X11_layOn_10 hC hT m _ _ _ _ ⟨fun q => absurd q (nI_ge (b := 5) (by omega) (by omega)), fun _ => ?_⟩
      rw [nI_clamp (n := s) (by omega), nI_1]
      have st : ∀ y, y = nI (FW d w v i 0 s) → WT κ 10 [some (.inr 187), some (.inl (nI w)), none, some (.inl (nI i)), some (.inl (nI (2 * w + v))), some (.inl (nI (s + 1))), none, none] [] (mset m 202 s y) := fun y hy => ih (s + 1) _ (by omega) (hm.ms (Or.inl rfl)) (fun k hk => by
        by_cases e : k = s
        · subst e; rw [ms_eq]; exact hy
        · rw [ms_sl e]; exact h2 k (by omega))
      refine ⟨fun q => ⟨vp_in_nI (by omega) (by omega), st _ ?_⟩, fun q => ⟨vp_in_nI (by omega) (by omega), st _ ?_⟩⟩
      · have : s = 0 := (nI_eq (b := 0) (by omega) (by omega)).mp q
        subst this
        rfl
      · have : ¬ s = 0 := fun z => q (by rw [z]; rfl)
        show _ = nI (if s = 0 then 0 else 1000000)
        rw [if_neg this]
        rfl
  refine K_X11_layOn_0 hC hT mem _ _ _ ?_
  rw [sm_ix2]
  exact init 5 0 mem (by omega) ⟨fun j h1 h2 => by omega, fun _ _ => rfl, fun _ _ _ _ _ => rfl⟩ (fun k hk => by omega)
/-- the table while c w i ways of word w are laid from frame i on -/
def LAL (d : PD) (c : Nat → Nat → Nat) (mem m : TMem) : Prop := (∀ w i j, w < 8 → i < dn d → i < j → j ≤ dn d → m 201 ((41 * w + i) * 41 + j) = nI (mn (c w i) (fun v => FW d w v i (j - i) (dln d w v)))) ∧ ∀ o j, ¬ o = 201 → ¬ o = 202 → ¬ o = 203 → m o j = mem o j
theorem LAL.dm {d : PD} {c : Nat → Nat → Nat} {mem m : TMem} (h : LAL d c mem m) (hd : DM mem d) : DM m d :=
  hd.of (h.2 187 0 (by omega) (by omega) (by omega)) (h.2 187 3 (by omega) (by omega) (by omega)) (h.2 187 4 (by omega) (by omega) (by omega)) (fun o h1 h2 => funext fun j => h.2 o j (by omega) (by omega) (by omega))
theorem LAL.eq {d : PD} {c c2 : Nat → Nat → Nat} {mem m : TMem} (h : LAL d c mem m) (he : ∀ w i, w < 8 → i < dn d → c w i = c2 w i) : LAL d c2 mem m :=
  ⟨fun w i j h1 h2 h3 h4 => by rw [← he w i h1 h2]; exact h.1 w i j h1 h2 h3 h4, h.2⟩
def cw (d : PD) (w v i : Nat) (a b : Nat) : Nat := if a < w then dwy d a else if a = w then (if b < i then v + 1 else v) else 0
def LAF (d : PD) (mem m : TMem) : Prop := (∀ w i j, w < dW d → i < dn d → i < j → j ≤ dn d → m 201 ((41 * w + i) * 41 + j) = nI (OF d w i (j - i))) ∧ ∀ o j, ¬ o = 201 → ¬ o = 202 → ¬ o = 203 → m o j = mem o j
set_option maxRecDepth 100000 in
theorem C_layAll (l : Launch) {mem : TMem} {d : PD} (hd : DM mem d) : TMv l i_X11_layAll 2 49 [.inr 187] mem (LAF d mem) := by
  refine tw_met (by decide) (Nat.le_of_ble_eq_true rfl) (fun κ hl hC hT => ?_)
  have h40 := hd.n40
  have h8 := hd.w8
  have inner : ∀ w v, w < dW d → v < dwy d w → (∀ m, LAL d (cw d w (v + 1) 0) mem m → WT κ 35 [some (.inr 187), some (.inl (nI w)), some (.inl (nI v + 1)), none] [] m) → ∀ c i m, c + i = dn d → LAL d (cw d w v i) mem m → WT κ 47 [some (.inr 187), some (.inl (nI w)), some (.inl (nI v)), some (.inl (nI i))] [] m := by
    intro w v hw hv next c
    have hwy := hd.wy w hw
    induction c with
    | zero =>
      intro i m hc hm
      refine K_X11_layAll_47 hC hT m _ _ _ ⟨fun _ => next m (hm.eq (fun a b ha hb => ?_)), fun q => absurd (by rw [(hm.dm hd).fr]; exact nI_le (by omega) (by omega)) q⟩
      unfold cw
      rw [if_pos (show b < i by omega), if_neg (show ¬ b < 0 by omega)]
    | succ c ih =>
      intro i m hc hm
      have hcw : cw d w v i w i = v := by unfold cw; rw [if_neg (by omega), if_pos rfl, if_neg (by omega)]
      refine K_X11_layAll_47 hC hT m _ _ _ ⟨fun q => absurd q (by rw [(hm.dm hd).fr]; exact nI_ge (by omega) (by omega)), fun _ => ⟨_, C_layOn _ (x := fun j => mn v (fun v => FW d w v i (j - i) (dln d w v))) (hm.dm hd) hw hv (by omega) (fun j h1 h2 => ⟨by rw [hm.1 w i j (by omega) (by omega) h1 h2, hcw], mn_far _ _⟩), fun m2 h2 => ?_⟩⟩
      rw [nI_1]
      refine ih (i + 1) m2 (by omega) ⟨fun a b j q1 q2 q3 q4 => ?_, fun o j q1 q2 q3 => by rw [h2.2.2 o j q1 q2 q3]; exact hm.2 o j q1 q2 q3⟩
      by_cases e : a = w ∧ b = i
      · obtain ⟨rfl, rfl⟩ := e
        rw [h2.1 j q3 (by omega)]
        congr 1
        have : cw d a v (b + 1) a b = v + 1 := by unfold cw; rw [if_neg (by omega), if_pos rfl, if_pos (by omega)]
        rw [this]
        rfl
      · have hq : (41 * a + b) * 41 + j ≤ (41 * w + i) * 41 + i ∨ (41 * w + i) * 41 + (i + (dn d - i)) < (41 * a + b) * 41 + j := by
          rcases Nat.lt_trichotomy a w with z | z | z
          · omega
          · subst z
            rcases Nat.lt_trichotomy b i with y | y | y
            · omega
            · exact absurd ⟨rfl, y⟩ e
            · omega
          · omega
        rw [h2.2.1 _ hq, hm.1 a b j q1 q2 q3 q4]
        congr 2
        unfold cw
        by_cases e2 : a < w
        · rw [if_pos e2, if_pos e2]
        · rw [if_neg e2, if_neg e2]
          by_cases e3 : a = w
          · rw [if_pos e3, if_pos e3]
            by_cases e4 : b < i
            · rw [if_pos e4, if_pos (by omega)]
            · rw [if_neg e4, if_neg (by omega)]
          · rw [if_neg e3, if_neg e3]
  have mid : ∀ w, w < dW d → (∀ m, LAL d (cw d (w + 1) 0 0) mem m → WT κ 25 [some (.inr 187), some (.inl (nI w + 1)), none, none] [] m) → ∀ c v m, c + v = dwy d w → LAL d (cw d w v 0) mem m → WT κ 35 [some (.inr 187), some (.inl (nI w)), some (.inl (nI v)), none] [] m := by
    intro w hw next c
    have hwy := hd.wy w hw
    induction c with
    | zero =>
      intro v m hc hm
      have : v = dwy d w := by omega
      subst this
      refine K_X11_layAll_35 hC hT m _ _ ?_
      rw [nI_clamp (n := w) (by omega), ((hm.dm hd).wy w hw).2.2]
      refine ⟨vp_in_nI (by omega) (by omega), fun _ => next m (hm.eq (fun a b ha hb => ?_)), fun q => absurd (nI_le (Nat.le_refl _) (by omega)) q⟩
      unfold cw
      rw [if_neg (show ¬ b < 0 by omega), if_neg (show ¬ b < 0 by omega)]
      by_cases e : a < w
      · rw [if_pos e, if_pos (by omega)]
      · rw [if_neg e]
        by_cases e2 : a = w
        · subst e2; rw [if_pos rfl, if_pos (by omega)]
        · rw [if_neg e2, if_neg (by omega)]
          split <;> rfl
    | succ c ih =>
      intro v m hc hm
      refine K_X11_layAll_35 hC hT m _ _ ?_
      rw [nI_clamp (n := w) (by omega), ((hm.dm hd).wy w hw).2.2]
      refine ⟨vp_in_nI (by omega) (by omega), fun q => absurd q (nI_ge (by omega) (by omega)), fun _ => inner w v hw (by omega) (fun m2 h2 => ?_) (dn d) 0 m (by omega) hm⟩
      rw [nI_1]
      exact ih (v + 1) m2 (by omega) h2
  have outer : ∀ c w m, c + w = dW d → LAL d (cw d w 0 0) mem m → WT κ 25 [some (.inr 187), some (.inl (nI w)), none, none] [] m := by
    intro c
    induction c with
    | zero =>
      intro w m hc hm
      refine K_X11_layAll_25 hC hT m _ ⟨fun _ => ⟨rfl, fun a i j q1 q2 q3 q4 => ?_, hm.2⟩, fun q => absurd (by rw [(hm.dm hd).wd]; exact nI_le (by omega) (by omega)) q⟩
      rw [hm.1 a i j (by omega) q2 q3 q4]
      have : cw d w 0 0 a i = dwy d a := by unfold cw; rw [if_pos (by omega)]
      rw [this]
      rfl
    | succ c ih =>
      intro w m hc hm
      refine K_X11_layAll_25 hC hT m _ ⟨fun q => absurd q (by rw [(hm.dm hd).wd]; exact nI_ge (by omega) (by omega)), fun _ => mid w (by omega) (fun m2 h2 => ?_) (dwy d w) 0 m (by omega) hm⟩
      rw [nI_1]
      exact ih (w + 1) m2 (by omega) h2
  have init : ∀ c k m, c + k = 13448 → (∀ q, q < k → m 201 q = 1000000) → (∀ o j, ¬ o = 201 → m o j = mem o j) → WT κ 2 [some (.inr 187), some (.inl (nI k)), none, none] [] m := by
    intro c
    induction c with
    | zero =>
      intro k m hc hm ho
      have : k = 13448 := by omega
      subst this
      refine K_X11_layAll_2 hC hT m _ ⟨fun _ => outer (dW d) 0 m (by omega) ⟨fun w i j q1 q2 q3 q4 => ?_, fun o j q1 _ _ => ho o j q1⟩, fun q => absurd (by decide) q⟩
      rw [hm _ (by omega)]
      have : cw d 0 0 0 w i = 0 := by unfold cw; rw [if_neg (by omega)]; split <;> rfl
      rw [this]
      rfl
    | succ c ih =>
      intro k m hc hm ho
      refine K_X11_layAll_2 hC hT m _ ⟨fun q => absurd q (nI_ge (b := 13448) (by omega) (by omega)), fun _ => ⟨vp_in_nI (by omega) (by omega), ?_⟩⟩
      rw [nI_clamp (n := k) (by omega), nI_1]
      refine ih (k + 1) _ (by omega) (fun q hq => ?_) (fun o j h => by rw [ms_ne h]; exact ho o j h)
      by_cases e : q = k
      · subst e; rw [ms_eq]
      · rw [ms_sl e]; exact hm q (by omega)
  exact K_X11_layAll_0 hC hT mem (init 13448 0 mem (by omega) (fun q hq => by omega) (fun _ _ _ => rfl))
