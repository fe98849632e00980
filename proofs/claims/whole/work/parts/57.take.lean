/-! LAYING of the class: the slots -/
def TOX (mem : TMem) (d : PD) (t : Nat → Nat) (T : Nat) : Prop := T ≤ 12 ∧ mem 106 1 = nI T ∧ ∀ k, k < T → mem 107 k = nI (t k) ∧ t k < dW d
theorem TOX.of {mem m : TMem} {d : PD} {t : Nat → Nat} {T : Nat} (h : TOX mem d t T) (h1 : m 106 1 = mem 106 1) (h2 : ∀ k, m 107 k = mem 107 k) : TOX m d t T := ⟨h.1, by rw [h1]; exact h.2.1, fun k hk => by rw [h2]; exact h.2.2 k hk⟩
theorem at106 {m : TMem} {d : PD} {t : Nat → Nat} {T k : Nat} (h : TOX m d t T) (hk : k < T) : G_X7_at_106 m (nI k) ∧ F_X7_at_106 m (nI k) = nI (t k) := by
  have hT := h.1
  unfold G_X7_at_106 F_X7_at_106
  rw [if_neg (nI_pos (by omega)), h.2.1, if_neg (nI_ge hk (by omega)), nI_clamp (by omega), (h.2.2 k hk).1]
  exact ⟨fun _ _ => vp_in_nI (by omega) (by omega), rfl⟩
def sd1 (d : PD) (t : Nat → Nat) (k v s : Nat) : Int32 := if v < dwy d (t k) ∧ s < dln d (t k) v then nI (dsd d (t k) v s) else -1
def JB (d : PD) (t : Nat → Nat) (T k : Nat) : Nat := dJ d (t k + 1) (if k + 1 < T then t (k + 1) + 1 else 0)
def TKP (d : PD) (t : Nat → Nat) (k0 v0 s0 : Nat) (m : TMem) : Prop := ∀ k v s, k < 12 → v < 2 → s < 4 → m 109 (8 * k + 4 * v + s) = if (k < k0 ∨ (k = k0 ∧ (v < v0 ∨ (v = v0 ∧ s < s0)))) then sd1 d t k v s else -1
def TKJ (d : PD) (t : Nat → Nat) (T k0 : Nat) (mem m : TMem) : Prop := (∀ k, k < k0 → m 110 k = nI (JB d t T k)) ∧ m 108 4 = nI T ∧ ∀ o j, ¬ o = 109 → ¬ o = 110 → ¬ (o = 108 ∧ j = 4) → m o j = mem o j
def TKC (d : PD) (t : Nat → Nat) (T : Nat) (m : TMem) : Prop := (∀ k v s, k < T → v < 2 → s < 4 → m 109 (8 * k + 4 * v + s) = sd1 d t k v s) ∧ (∀ k, k < T → m 110 k = nI (JB d t T k)) ∧ m 108 4 = nI T
set_option maxRecDepth 100000 in
theorem C_takeRow (l : Launch) {mem : TMem} {d : PD} {t : Nat → Nat} {T : Nat} (hd : DX mem d) (hto : TOX mem d t T) : TMv l i_X3_takeRow 2 45 [.inr 108, .inr 10, .inr 106] mem (fun m => TKC d t T m ∧ ∀ o j, ¬ o = 109 → ¬ o = 110 → ¬ (o = 108 ∧ j = 4) → m o j = mem o j) := by
  refine tw_met (by decide) (Nat.le_of_ble_eq_true rfl) (fun κ hl hC hT => ?_)
  have h8 := hd.w8
  have hT12 := hto.1
  have hdx : ∀ k0 m, TKJ d t T k0 mem m → DX m d := fun k0 m h => hd.of (fun o q => funext fun j => h.2.2 o j (by omega) (by omega) (by omega))
  have htx : ∀ k0 m, TKJ d t T k0 mem m → TOX m d t T := fun k0 m h => hto.of (h.2.2 106 1 (by omega) (by omega) (by omega)) (fun k => h.2.2 107 k (by omega) (by omega) (by omega))
  have key94 : ∀ k v, k < T → v < dwy d (t k) → (∀ m, TKJ d t T (k + 1) mem m → TKP d t k (v + 1) 0 m → WT κ 69 [some (.inr 108), some (.inr 10), some (.inr 106), some (.inl (nI k)), some (.inl (nI (t k))), some (.inl (nI v + 1)), none, none] [] m) → ∀ c s m, c + s = dln d (t k) v → TKJ d t T (k + 1) mem m → TKP d t k v s m → WT κ 94 [some (.inr 108), some (.inr 10), some (.inr 106), some (.inl (nI k)), some (.inl (nI (t k))), some (.inl (nI v)), some (.inl (nI (k * 8 + v * 4))), some (.inl (nI s))] [] m := by
    intro k v hk hv next c
    have hw := (hto.2.2 k hk).2
    have hwy := hd.wy (t k) hw
    have hln := hd.ln (t k) v hw hv
    induction c with
    | zero =>
      intro s m hc hm hp
      have : s = dln d (t k) v := by omega
      subst this
      refine K_X3_takeRow_94 hC hT m _ _ _ _ _ ?_
      unfold G_X5_lengthOf
      rw [sm_ix, nI_clamp (n := 2 * t k + v) (by omega), ((hdx _ m hm).ln (t k) v hw hv).2.2]
      refine ⟨vp_in_nI (by omega) (by omega), fun _ => next m hm (fun a b x q1 q2 q3 => ?_), fun q => absurd (nI_le (Nat.le_refl _) (by omega)) q⟩
      rw [hp a b x q1 q2 q3]
      by_cases e : a < k ∨ (a = k ∧ (b < v ∨ (b = v ∧ x < dln d (t k) v)))
      · rw [if_pos e, if_pos (by omega)]
      · rw [if_neg e]
        by_cases e2 : a < k ∨ (a = k ∧ (b < v + 1 ∨ (b = v + 1 ∧ x < 0)))
        · rw [if_pos e2]
          have ea : a = k := by omega
          have eb : b = v := by omega
          subst ea eb
          unfold sd1
          rw [if_neg (by omega)]
        · rw [if_neg e2]
    | succ c ih =>
      intro s m hc hm hp
      refine K_X3_takeRow_94 hC hT m _ _ _ _ _ ?_
      have hdm := hdx _ m hm
      unfold G_X5_lengthOf G_X5_soundOf
      rw [sm_ix, nI_clamp (n := 2 * t k + v) (by omega), (hdm.ln (t k) v hw hv).2.2, nI_add, nI_clamp (n := k * 8 + v * 4 + s) (by omega), nI_clamp (n := s) (by omega), (hdm.sd (t k) v s hw hv (by omega)).2, nI_1 s]
      refine ⟨vp_in_nI (by omega) (by omega), fun q => absurd q (nI_ge (by omega) (by omega)), fun _ => ⟨⟨vp_in_nI (by omega) (by omega), vp_in_nI (by omega) (by omega)⟩, vp_in_nI (by omega) (by omega), ih (s + 1) _ (by omega) ⟨fun x hx => by rw [ms_ne (by omega)]; exact hm.1 x hx, by rw [ms_ne (by omega)]; exact hm.2.1, fun o j q1 q2 q3 => by rw [ms_ne q1]; exact hm.2.2 o j q1 q2 q3⟩ (fun a b x q1 q2 q3 => ?_)⟩⟩
      by_cases e : a = k ∧ b = v ∧ x = s
      · obtain ⟨rfl, rfl, rfl⟩ := e
        rw [show 8 * a + 4 * b + x = a * 8 + b * 4 + x by omega, ms_eq, if_pos (by omega)]
        unfold sd1
        rw [if_pos ⟨hv, by omega⟩]
      · rw [ms_sl (by omega), hp a b x q1 q2 q3]
        by_cases e2 : a < k ∨ (a = k ∧ (b < v ∨ (b = v ∧ x < s)))
        · rw [if_pos e2, if_pos (by omega)]
        · rw [if_neg e2, if_neg (by omega)]
  have key69 : ∀ k, k < T → (∀ m, TKJ d t T (k + 1) mem m → TKP d t (k + 1) 0 0 m → WT κ 18 [some (.inr 108), some (.inr 10), some (.inr 106), some (.inl (nI k + 1)), none, none, none, none] [] m) → ∀ c v m, c + v = dwy d (t k) → TKJ d t T (k + 1) mem m → TKP d t k v 0 m → WT κ 69 [some (.inr 108), some (.inr 10), some (.inr 106), some (.inl (nI k)), some (.inl (nI (t k))), some (.inl (nI v)), none, none] [] m := by
    intro k hk next c
    have hw := (hto.2.2 k hk).2
    have hwy := hd.wy (t k) hw
    induction c with
    | zero =>
      intro v m hc hm hp
      have : v = dwy d (t k) := by omega
      subst this
      refine K_X3_takeRow_69 hC hT m _ _ _ ?_
      rw [nI_clamp (n := t k) (by omega), ((hdx _ m hm).wy (t k) hw).2.2]
      refine ⟨vp_in_nI (by omega) (by omega), fun _ => next m hm (fun a b x q1 q2 q3 => ?_), fun q => absurd (nI_le (Nat.le_refl _) (by omega)) q⟩
      rw [hp a b x q1 q2 q3]
      by_cases e : a < k ∨ (a = k ∧ (b < dwy d (t k) ∨ (b = dwy d (t k) ∧ x < 0)))
      · rw [if_pos e, if_pos (by omega)]
      · rw [if_neg e]
        by_cases e2 : a < k + 1 ∨ (a = k + 1 ∧ (b < 0 ∨ (b = 0 ∧ x < 0)))
        · rw [if_pos e2]
          have ea : a = k := by omega
          subst ea
          unfold sd1
          rw [if_neg (by omega)]
        · rw [if_neg e2]
    | succ c ih =>
      intro v m hc hm hp
      refine K_X3_takeRow_69 hC hT m _ _ _ ?_
      rw [nI_clamp (n := t k) (by omega), ((hdx _ m hm).wy (t k) hw).2.2]
      refine ⟨vp_in_nI (by omega) (by omega), fun q => absurd q (nI_ge (by omega) (by omega)), fun _ => ?_⟩
      rw [show (8 : Int32) = nI 8 from rfl, show (4 : Int32) = nI 4 from rfl, pk_mul, pk_mul, nI_add]
      exact key94 k v hk (by omega) (fun m2 z1 z2 => by rw [nI_1]; exact ih (v + 1) m2 (by omega) z1 z2) (dln d (t k) v) 0 m (by omega) hm hp
  have key18 : ∀ c k m, c + k = T → TKJ d t T k mem m → TKP d t k 0 0 m → WT κ 18 [some (.inr 108), some (.inr 10), some (.inr 106), some (.inl (nI k)), none, none, none, none] [] m := by
    intro c
    induction c with
    | zero =>
      intro k m hc hm hp
      have : k = T := by omega
      subst this
      refine K_X3_takeRow_18 hC hT m _ ?_
      rw [hm.2.1]
      refine ⟨fun _ => ⟨rfl, ⟨fun a b x q1 q2 q3 => ?_, hm.1, hm.2.1⟩, hm.2.2⟩, fun q => absurd (nI_le (Nat.le_refl _) (by omega)) q⟩
      rw [hp a b x (by omega) q2 q3, if_pos (Or.inl q1)]
    | succ c ih =>
      intro k m hc hm hp
      have hk : k < T := by omega
      have htm := htx _ m hm
      have hdm := hdx _ m hm
      obtain ⟨g1, g2⟩ := at106 htm hk
      have hw := (hto.2.2 k hk).2
      have go : ∀ x, x = nI (JB d t T k) → WT κ 69 [some (.inr 108), some (.inr 10), some (.inr 106), some (.inl (nI k)), some (.inl (nI (t k))), some (.inl 0), none, none] [] (mset m 110 k x) := fun x hx => by
        refine key69 k hk (fun m2 z1 z2 => by rw [nI_1]; exact ih (k + 1) m2 (by omega) z1 z2) (dwy d (t k)) 0 _ (by omega) ⟨fun a ha => ?_, by rw [ms_ne (by omega)]; exact hm.2.1, fun o j q1 q2 q3 => by rw [ms_ne q2]; exact hm.2.2 o j q1 q2 q3⟩ (fun a b x q1 q2 q3 => by rw [ms_ne (by omega)]; exact hp a b x q1 q2 q3)
        by_cases e : a = k
        · subst e; rw [ms_eq]; exact hx
        · rw [ms_sl e]; exact hm.1 a (by omega)
      refine K_X3_takeRow_18 hC hT m _ ?_
      rw [hm.2.1, g2, nI_1 k, nI_clamp (n := k) (by omega), nI_leI (b := k + 1) (by omega) (by omega)]
      refine ⟨fun q => absurd q (nI_ge (by omega) (by omega)), fun _ => ⟨g1, fun q => ?_, fun q => ?_⟩⟩
      · obtain ⟨j1, j2, j3⟩ := hdm.jo (t k + 1) 0 (by omega) (by omega)
        rw [wi_s, wi_0] at j1 j2
        refine ⟨j1, vp_in_nI (by omega) (by omega), go _ ?_⟩
        rw [j2]
        unfold JB
        rw [if_neg (by omega)]
      · obtain ⟨g3, g4⟩ := at106 htm (show k + 1 < T by omega)
        have hw2 := (hto.2.2 (k + 1) (by omega)).2
        obtain ⟨j1, j2, j3⟩ := hdm.jo (t k + 1) (t (k + 1) + 1) (by omega) (by omega)
        rw [wi_s, wi_s] at j1 j2
        rw [g4]
        refine ⟨g3, j1, vp_in_nI (by omega) (by omega), go _ ?_⟩
        rw [j2]
        unfold JB
        rw [if_pos (by omega)]
  refine K_X3_takeRow_0 hC hT mem ⟨_, C_fillT _ (n := 96) (by decide +kernel) (by omega), ?_⟩
  rintro m3 rfl
  rw [mfill_o (by omega), hto.2.1]
  refine key18 T 0 _ (by omega) ⟨fun a ha => by omega, by rw [ms_eq], fun o j q1 q2 q3 => ?_⟩ (fun a b x q1 q2 q3 => ?_)
  · by_cases e : o = 108
    · subst e
      rw [ms_sl (by omega), mfill_o q1]
    · rw [ms_ne e, mfill_o q1]
  · rw [ms_ne (by omega), mfill_at (by omega), if_neg (by omega)]
def LSv (d : PD) (t : Nat → Nat) (T m k v s : Nat) : Nat := if v < dwy d (t k) ∧ s < dln d (t k) v then LA d t T m k v s else 1000000
def LSf (d : PD) (t : Nat → Nat) (T m sl : Nat) : Nat := LSv d t T m (sl / 8) (sl % 8 / 4) (sl % 4)
theorem LSf_ix {d : PD} {t : Nat → Nat} {T m k v s : Nat} (hv : v < 2) (hs : s < 4) : LSf d t T m (8 * k + 4 * v + s) = LSv d t T m k v s := by
  unfold LSf
  rw [show (8 * k + 4 * v + s) / 8 = k by omega, show (8 * k + 4 * v + s) % 8 / 4 = v by omega, show (8 * k + 4 * v + s) % 4 = s by omega]
theorem LSf_far {d : PD} {t : Nat → Nat} {T m sl : Nat} : LSf d t T m sl ≤ 1000000 := by
  unfold LSf LSv
  split
  · exact LA_far _ _ _ _
  · exact Nat.le_refl _
theorem LSf_0 {d : PD} {t : Nat → Nat} {T sl : Nat} : LSf d t T 0 sl = 1000000 := by
  unfold LSf LSv
  split <;> rfl
def ROWX (d : PD) (t : Nat → Nat) (T f : Nat) (m : TMem) : Prop := ∀ sl, sl < 8 * T → m (112 + f) sl = nI (LSf d t T (dn d - f) sl)
section SLOT_
variable {m : TMem} {d : PD} {t : Nat → Nat} {T : Nat}
theorem fS_is (hd : DX m d) (hT12 : T ≤ 12) (ht : ∀ k, k < T → t k < dW d) {f k : Nat} (hr : ROWX d t T f m) (hf : f ≤ dn d) (hk : k < T) : G_X3_firstSlot (nI k) (nI f) ∧ F_X3_firstSlot m (nI k) (nI f) = nI (8 * k + 4 * fw d t T (dn d - f) k) ∧ m (112 + f) (8 * k + 4 * fw d t T (dn d - f) k) = nI (BW d t T (dn d - f) k) := by
  have h40 := hd.n40
  have hwy := hd.wy (t k) (ht k hk)
  have hln0 := hd.ln (t k) 0 (ht k hk) (by omega)
  have e8 : nI k * 8 = nI (8 * k) := by rw [show (8 : Int32) = nI 8 from rfl, pk_mul, Nat.mul_comm]
  have e4 : nI (8 * k) + 4 = nI (8 * k + 4) := nI_add _ 4
  have r0 : m (112 + f) (8 * k) = nI (LA d t T (dn d - f) k 0 0) := by
    have := hr (8 * k + 4 * 0 + 0) (by omega)
    rw [LSf_ix (by omega) (by omega)] at this
    unfold LSv at this
    rw [if_pos ⟨by omega, by omega⟩] at this
    exact this
  have r1 : m (112 + f) (8 * k + 4) = nI (if 1 < dwy d (t k) then LA d t T (dn d - f) k 1 0 else 1000000) := by
    have := hr (8 * k + 4 * 1 + 0) (by omega)
    rw [LSf_ix (by omega) (by omega)] at this
    rw [show 8 * k + 4 = 8 * k + 4 * 1 + 0 by omega, this]
    unfold LSv
    by_cases q : 1 < dwy d (t k)
    · have := (hd.ln (t k) 1 (ht k hk) q).1
      rw [if_pos ⟨q, by omega⟩, if_pos q]
    · rw [if_neg (by omega), if_neg q]
  have f0 := LA_far (d := d) (t := t) (T := T) (dn d - f) k 0 0
  have f1 := LA_far (d := d) (t := t) (T := T) (dn d - f) k 1 0
  have hlast := fw_is (T := T) (m := dn d - f) hwy.1 hwy.2.1
  unfold G_X3_firstSlot F_X3_firstSlot
  rw [e8, e4, nI_clamp (n := f) (by omega), nI_clamp (n := 8 * k) (by omega), nI_clamp (n := 8 * k + 4) (by omega), r0, r1]
  refine ⟨⟨vp_in_nI (by omega) (by omega), vp_in_nI (by omega) (by omega), vp_in_nI (by omega) (by omega)⟩, ?_⟩
  unfold fw at hlast ⊢
  by_cases q : 1 < dwy d (t k) ∧ LA d t T (dn d - f) k 1 0 < LA d t T (dn d - f) k 0 0
  · rw [if_pos q] at hlast ⊢
    rw [if_neg (show ¬ nI (LA d t T (dn d - f) k 0 0) ≤ nI (if 1 < dwy d (t k) then LA d t T (dn d - f) k 1 0 else 1000000) by rw [if_pos q.1]; exact nI_ge q.2 (by omega)), Nat.mul_one, r1, if_pos q.1, hlast]
    exact ⟨rfl, rfl⟩
  · rw [if_neg q] at hlast ⊢
    rw [if_pos (nI_le (by split <;> omega) (by split <;> omega)), Nat.mul_zero, Nat.add_zero, r0, hlast]
    exact ⟨rfl, rfl⟩
theorem hs_is (hd : DX m d) (hT12 : T ≤ 12) (ht : ∀ k, k < T → t k < dW d) (hk : TKC d t T m) {k v s : Nat} (hq : QV d t T (k, v, s)) : G_X3_hasSoundBehind (nI (8 * k + 4 * v + s)) ∧ F_X3_hasSoundBehind m (nI (8 * k + 4 * v + s)) = if s + 1 < dln d (t k) v then 1 else 0 := by
  obtain ⟨q1, q2, q3⟩ := hq
  dsimp only at q1 q2 q3
  have hwy := hd.wy (t k) (ht k q1)
  have hln := hd.ln (t k) v (ht k q1) q2
  have er : nI (8 * k + 4 * v + s) - nI (8 * k + 4 * v + s) / 4 * 4 = nI s := by
    have := pk_rem (a := 8 * k + 4 * v + s) (d := 4) (by omega) (by omega) (by omega)
    rw [show (8 * k + 4 * v + s) % 4 = s by omega] at this
    exact this
  unfold G_X3_hasSoundBehind F_X3_hasSoundBehind
  rw [er, nI_1 s, nI_1 (8 * k + 4 * v + s), show (4 : Int32) = nI 4 from rfl, nI_clamp (n := 8 * k + 4 * v + s + 1) (by omega)]
  by_cases c : 4 ≤ s + 1
  · rw [if_pos (nI_le c (by omega)), if_neg (by omega)]
    exact ⟨fun z => absurd (nI_le c (by omega)) z, rfl⟩
  · refine ⟨fun z => vp_in_nI (by omega) (by omega), ?_⟩
    rw [if_neg (nI_ge (by omega) (by omega)), show 8 * k + 4 * v + s + 1 = 8 * k + 4 * v + (s + 1) by omega, hk.1 k v (s + 1) q1 (by omega) (by omega)]
    by_cases c2 : s + 1 < dln d (t k) v
    · rw [show sd1 d t k v (s + 1) = nI (dsd d (t k) v (s + 1)) from if_pos ⟨q2, c2⟩, if_neg (nI_nm1 (by have := (hd.sd (t k) v (s + 1) (ht k q1) q2 c2).1; omega)), if_pos c2]
    · rw [show sd1 d t k v (s + 1) = -1 from if_neg (fun z => c2 z.2), if_pos rfl, if_neg c2]
theorem go_is (hd : DX m d) (hT12 : T ≤ 12) (ht : ∀ k, k < T → t k < dW d) (hk : TKC d t T m) {f k v s : Nat} (hr : ROWX d t T f m) (hf : f ≤ dn d) (hq : QV d t T (k, v, s)) : G_X3_goOn m (nI (8 * k + 4 * v + s)) (nI f) (nI (dn d)) ∧ F_X3_goOn m (nI (8 * k + 4 * v + s)) (nI f) (nI (dn d)) = nI (GL d t T (dn d - f) k v s) := by
  obtain ⟨g1, g2⟩ := hs_is hd hT12 ht hk hq
  obtain ⟨q1, q2, q3⟩ := hq
  dsimp only at q1 q2 q3
  have h40 := hd.n40
  have hwy := hd.wy (t k) (ht k q1)
  have hln := hd.ln (t k) v (ht k q1) q2
  have e8 : nI (8 * k + 4 * v + s) / 8 = nI k := by
    have := pk_div (a := 8 * k + 4 * v + s) (d := 8) (by omega) (by omega) (by omega)
    rw [show (8 * k + 4 * v + s) / 8 = k by omega] at this
    exact this
  unfold G_X3_goOn F_X3_goOn
  rw [g2, e8, nI_1 k, hk.2.2, nI_1 (8 * k + 4 * v + s), nI_clamp (n := f) (by omega), nI_clamp (n := k) (by omega), nI_clamp (n := 8 * k + 4 * v + s + 1) (by omega)]
  by_cases c : s + 1 < dln d (t k) v
  · rw [if_pos c, if_neg (by decide), GL_in c]
    refine ⟨⟨g1, fun z => absurd z (by decide), fun _ => ⟨vp_in_nI (by omega) (by omega), vp_in_nI (by omega) (by omega)⟩⟩, ?_⟩
    have := hr (8 * k + 4 * v + (s + 1)) (by omega)
    rw [LSf_ix (by omega) (by omega)] at this
    unfold LSv at this
    rw [if_pos ⟨q2, c⟩] at this
    exact this
  · rw [if_neg c, if_pos rfl]
    by_cases c2 : k + 1 = T
    · rw [if_pos (congrArg nI c2), GL_end c c2, hk.2.1 k q1]
      have ej : JB d t T k = dJ d (t k + 1) 0 := by unfold JB; rw [if_neg (by omega)]
      refine ⟨⟨g1, fun _ => ⟨fun _ _ => vp_in_nI (by omega) (by omega), fun z => absurd (congrArg nI c2) z⟩, fun z => absurd rfl z⟩, ?_⟩
      by_cases c3 : f = dn d
      · rw [if_pos (congrArg nI c3), if_pos (by omega), ej]
      · rw [if_neg (fun z => c3 ((nI_eq (by omega) (by omega)).mp z)), if_neg (by omega)]
        rfl
    · have n2 : ¬ nI (k + 1) = nI T := fun z => c2 ((nI_eq (by omega) (by omega)).mp z)
      obtain ⟨s1, s2, s3⟩ := fS_is hd hT12 ht hr hf (show k + 1 < T by omega)
      have ej : JB d t T k = dJ d (t k + 1) (t (k + 1) + 1) := by unfold JB; rw [if_pos (by omega)]
      have hw2 := fw_2 (d := d) (t := t) (T := T) (dn d - f) (k + 1)
      rw [if_neg n2, GL_on c c2, hk.2.1 k q1, s2, nI_clamp (n := 8 * (k + 1) + 4 * fw d t T (dn d - f) (k + 1)) (by omega), s3, nI_add, ej]
      refine ⟨⟨g1, fun _ => ⟨fun z => absurd z n2, fun _ _ => ⟨vp_in_nI (by omega) (by omega), vp_in_nI (by omega) (by omega), s1, vp_in_nI (by omega) (by omega)⟩⟩, fun z => absurd rfl z⟩, ?_⟩
      by_cases c3 : f = dn d
      · rw [if_pos (congrArg nI c3), if_pos (by omega)]
        rfl
      · rw [if_neg (fun z => c3 ((nI_eq (by omega) (by omega)).mp z)), if_neg (by omega)]
end SLOT_
