/-! LAYING of the reference: the table -/
def TOM (mem : TMem) (d : PD) (t : Nat → Nat) (T : Nat) : Prop := T ≤ 12 ∧ mem 187 9 = nI T ∧ ∀ k, k < T → mem 194 k = nI (t k) ∧ t k < dW d
def aix (k v s f : Nat) : Nat := ((2 * k + v) * 4 + s) * 41 + f
theorem aixI (k v s f : Nat) : ((((2 * nI k) + nI v) * 4 + nI s) * 41 + nI f : Int32) = nI (aix k v s f) := by
  rw [show (2 : Int32) = nI 2 from rfl, show (4 : Int32) = nI 4 from rfl, show (41 : Int32) = nI 41 from rfl, pk_mul, nI_add, pk_mul, nI_add, pk_mul, nI_add]
  rfl
theorem aix_lt {k v s f : Nat} (hk : k < 12) (hv : v < 2) (hs : s < 4) (hf : f < 41) : aix k v s f < 3936 := by unfold aix; omega
theorem aix_ne {k v s f k2 v2 s2 f2 : Nat} (hv : v < 2) (hs : s < 4) (hf : f < 41) (hv2 : v2 < 2) (hs2 : s2 < 4) (hf2 : f2 < 41) (h : ¬ (k = k2 ∧ v = v2 ∧ s = s2 ∧ f = f2)) : ¬ aix k v s f = aix k2 v2 s2 f2 := by unfold aix; omega
def GB (d : PD) (t : Nat → Nat) (T m k : Nat) : Nat := if k + 1 = T then (if m = 0 then dJ d (t k + 1) 0 else 1000000) else sa (dJ d (t k + 1) (t (k + 1) + 1)) (BW d t T m (k + 1))
theorem BW_0 {d : PD} {t : Nat → Nat} {T k : Nat} : BW d t T 0 k = 1000000 := mn_const_far _ (fun _ _ => Nat.le_refl _)
theorem GB_is {d : PD} {t : Nat → Nat} {T m k v s X : Nat} (h : ¬ s + 1 < dln d (t k) v) : sa X (GB d t T m k) = sa X (GL d t T m k v s) := by
  unfold GB
  by_cases c : k + 1 = T
  · rw [if_pos c, GL_end h c]
  · rw [if_neg c, GL_on h c]
    by_cases c2 : m = 0
    · subst c2
      rw [if_pos rfl, BW_0]
      have := sa_farR (dJ d (t k + 1) (t (k + 1) + 1))
      have := sa_far (dJ d (t k + 1) (t (k + 1) + 1)) 1000000
      rw [show sa (dJ d (t k + 1) (t (k + 1) + 1)) 1000000 = 1000000 by omega]
    · rw [if_neg c2]
      unfold sa
      omega
section MLAY_
variable {mem : TMem} {d : PD} {t : Nat → Nat} {T : Nat}
set_option maxRecDepth 100000 in
theorem C_bestWay (l : Launch) {k f : Nat} (hd : DM mem d) (hto : TOM mem d t T) (hk : k < T) (hf : f ≤ dn d) (ha : f < dn d → ∀ v, v < dwy d (t k) → mem 208 (aix k v 0 f) = nI (LA d t T (dn d - f) k v 0)) : TMi l i_X11_bestWay 1 23 [.inr 187, .inl (nI k), .inl (nI f)] mem (fun x m => x = nI (BW d t T (dn d - f) k) ∧ m = mem) := by
  refine tw_met (by decide) (Nat.le_of_ble_eq_true rfl) (fun κ hl hC hT => ?_)
  have h40 := hd.n40
  have h8 := hd.w8
  have hT12 := hto.1
  obtain ⟨t1, hw⟩ := hto.2.2 k hk
  have hwy := hd.wy (t k) hw
  refine K_X11_bestWay_0 hC hT mem _ _ ?_
  by_cases c : f < dn d
  · have key : ∀ i v, i + v = dwy d (t k) → WT κ 6 [some (.inr 187), some (.inl (nI k)), some (.inl (nI f)), some (.inl (nI (mn v (fun u => LA d t T (dn d - f) k u 0)))), some (.inl (nI v))] [] mem := by
      intro i
      induction i with
      | zero =>
        intro v hi
        have : v = dwy d (t k) := by omega
        subst this
        refine K_X11_bestWay_6 hC hT mem _ _ _ _ ?_
        rw [nI_clamp (n := k) (by omega), t1, nI_clamp (n := t k) (by omega), hwy.2.2]
        exact ⟨vp_in_nI (by omega) (by omega), vp_in_nI (by omega) (by omega), fun _ => ⟨_, rfl, rfl, rfl⟩, fun q => absurd (nI_le (Nat.le_refl _) (by omega)) q⟩
      | succ i ih =>
        intro v hi
        have nx := ih (v + 1) (by omega)
        have hmf := mn_far v (fun u => LA d t T (dn d - f) k u 0)
        have hAf := LA_far (d := d) (t := t) (T := T) (dn d - f) k v 0
        have hix := aix_lt (k := k) (v := v) (s := 0) (f := f) (by omega) (by omega) (by omega) (by omega)
        refine K_X11_bestWay_6 hC hT mem _ _ _ _ ?_
        rw [nI_clamp (n := k) (by omega), t1, nI_clamp (n := t k) (by omega), hwy.2.2, hd.fr, show (0 : Int32) = nI 0 from rfl, aixI, nI_clamp (n := aix k v 0 f) (by omega), ha c v (by omega), lesser_nI (by omega) (by omega), nI_1 v]
        exact ⟨vp_in_nI (by omega) (by omega), vp_in_nI (by omega) (by omega), fun q => absurd q (nI_ge (by omega) (by omega)), fun _ => ⟨fun q => absurd q (nI_ge (by omega) (by omega)), fun _ => ⟨vp_in_nI (by omega) (by omega), nx⟩⟩⟩
    exact key (dwy d (t k)) 0 (by omega)
  · refine K_X11_bestWay_6 hC hT mem _ _ _ _ ?_
    rw [nI_clamp (n := k) (by omega), t1, nI_clamp (n := t k) (by omega), hwy.2.2, hd.fr]
    refine ⟨vp_in_nI (by omega) (by omega), vp_in_nI (by omega) (by omega), fun q => absurd q (nI_nle (by omega) (by omega)), fun _ => ⟨fun _ => ⟨_, rfl, ?_, rfl⟩, fun q => absurd (nI_le (by omega) (by omega)) q⟩⟩
    rw [show dn d - f = 0 by omega, BW_0]
    rfl
set_option maxRecDepth 100000 in
theorem C_behindWord (l : Launch) {k f : Nat} (hd : DM mem d) (hto : TOM mem d t T) (hk : k < T) (hf : f ≤ dn d) (ha : k + 1 < T → f < dn d → ∀ v, v < dwy d (t (k + 1)) → mem 208 (aix (k + 1) v 0 f) = nI (LA d t T (dn d - f) (k + 1) v 0)) : TMi l i_X11_behindWord 2 47 [.inr 187, .inl (nI k), .inl (nI f)] mem (fun x m => x = nI (GB d t T (dn d - f) k) ∧ m = mem) := by
  refine tw_met (by decide) (Nat.le_of_ble_eq_true rfl) (fun κ hl hC hT => ?_)
  have h40 := hd.n40
  have h8 := hd.w8
  have hT12 := hto.1
  obtain ⟨t1, hw⟩ := hto.2.2 k hk
  have eM : (1000000 : Int32) = nI 1000000 := rfl
  refine K_X11_behindWord_0 hC hT mem _ _ ?_
  rw [hto.2.1, show (nI T : Int32) - 1 = nI (T - 1) from pk_sub (b := 1) (by omega), nI_eq (by omega) (by omega), hd.fr, nI_eq (a := f) (by omega) (by omega), nI_clamp (n := k) (by omega), t1, nI_1 k, nI_clamp (n := k + 1) (by omega)]
  unfold GB
  refine ⟨fun q => ?_, fun q => ?_⟩
  · rw [if_pos (show k + 1 = T by omega)]
    obtain ⟨b1, b2⟩ := hd.be (t k + 1) 0 (by omega) (by omega)
    rw [wi_s, wi_0] at b1 b2
    refine ⟨fun q2 => ⟨vp_in_nI (by omega) (by omega), b1, ?_⟩, fun q2 => ⟨_, rfl, by rw [if_neg (by omega)]; rfl, rfl⟩⟩
    rw [if_pos (show dn d - f = 0 by omega)]
    rcases b2 with ⟨b2, b3⟩ | ⟨b3, b2⟩
    · rw [b2, b3]
      exact ⟨fun _ => ⟨_, rfl, rfl, rfl⟩, fun z => absurd (by decide) z⟩
    · rw [b2]
      exact ⟨fun z => absurd z (nI_pos (by omega)), fun _ => ⟨_, rfl, rfl, rfl⟩⟩
  · rw [if_neg (show ¬ k + 1 = T by omega)]
    obtain ⟨t2, hw2⟩ := hto.2.2 (k + 1) (by omega)
    rw [t2]
    obtain ⟨b1, b2⟩ := hd.be (t k + 1) (t (k + 1) + 1) (by omega) (by omega)
    rw [wi_s, wi_s] at b1 b2
    refine ⟨vp_in_nI (by omega) (by omega), vp_in_nI (by omega) (by omega), b1, ?_⟩
    rcases b2 with ⟨b2, b3⟩ | ⟨b3, b2⟩
    · rw [b2, b3]
      refine ⟨fun z => absurd z (by decide), fun _ => ⟨_, rfl, ?_, rfl⟩⟩
      have := sa_farR (BW d t T (dn d - f) (k + 1))
      have := sa_far (BW d t T (dn d - f) (k + 1)) 1000000
      rw [sa_comm, show sa (BW d t T (dn d - f) (k + 1)) 1000000 = 1000000 by omega]
      rfl
    · rw [b2]
      refine ⟨fun _ => ⟨_, C_bestWay _ hd hto (show k + 1 < T by omega) hf (fun z => ha (by omega) z), ?_⟩, fun z => absurd (nI_pos' (by omega)) z⟩
      rintro x m2 ⟨rfl, rfl⟩
      have hB := BW_far (d := d) (t := t) (T := T) (dn d - f) (k + 1)
      rw [nI_add, eM, lesser_nI (by omega) (by omega)]
      exact ⟨_, rfl, rfl, rfl⟩
theorem SCf_far (hd : DM mem d) {y f : Nat} (hy : y < 6) : ∀ u, f + u ≤ dn d → SCf d y f u ≤ 50 * u
  | 0, _ => Nat.le_refl _
  | u + 1, h => by
    have h1 := SCf_far hd (f := f) hy u (by omega)
    have h2 := (hd.co y (f + u) hy (by omega)).2.2
    show SCf d y f u + dc d y (f + u) ≤ _
    omega
set_option maxRecDepth 100000 in
theorem C_soundTo (l : Launch) {k v s f e : Nat} (hd : DM mem d) (hto : TOM mem d t T) (hq : QV d t T (k, v, s)) (hfe : f < e) (he : e ≤ dn d) (h1 : s + 1 < dln d (t k) v → e < dn d → mem 208 (aix k v (s + 1) e) = nI (LA d t T (dn d - e) k v (s + 1))) (h2 : k + 1 < T → e < dn d → ∀ u, u < dwy d (t (k + 1)) → mem 208 (aix (k + 1) u 0 e) = nI (LA d t T (dn d - e) (k + 1) u 0)) : TMi l i_X11_soundTo 3 70 [.inr 187, .inl (nI k), .inl (nI v), .inl (nI s), .inl (nI f), .inl (nI e)] mem (fun x m => x = nI (sa (SC d (dsd d (t k) v s) f (e - f)) (GL d t T (dn d - e) k v s)) ∧ m = mem) := by
  refine tw_met (by decide) (Nat.le_of_ble_eq_true rfl) (fun κ hl hC hT => ?_)
  obtain ⟨hk, hv, hs⟩ := hq
  dsimp only at hk hv hs
  have h40 := hd.n40
  have h8 := hd.w8
  have hT12 := hto.1
  obtain ⟨t1, hw⟩ := hto.2.2 k hk
  have hwy := hd.wy (t k) hw
  have hln := hd.ln (t k) v hw hv
  obtain ⟨hy, y1⟩ := hd.sd (t k) v s hw hv hs
  have eM : (1000000 : Int32) = nI 1000000 := rfl
  have hst := hd.s20
  have hS : dst d * (e - f - 1) ≤ 20 * 40 := Nat.mul_le_mul hst (by omega)
  have hSC : SC d (dsd d (t k) v s) f (e - f) = dst d * (e - f - 1) + SCf d (dsd d (t k) v s) f (e - f) := rfl
  have key : ∀ c x, c + x = e → f ≤ x → WT κ 30 [some (.inr 187), some (.inl (nI k)), some (.inl (nI v)), some (.inl (nI s)), none, some (.inl (nI e)), some (.inl (nI (2 * t k + v))), some (.inl (nI (dst d * (e - f - 1) + SCf d (dsd d (t k) v s) f (x - f)))), some (.inl (nI x)), none] [] mem := by
    intro c
    induction c with
    | zero =>
      intro x hc hx
      have : x = e := by omega
      subst this
      have hF := SCf_far hd (f := f) hy (x - f) (by omega)
      have hX : SC d (dsd d (t k) v s) f (x - f) ≤ 3000 := by rw [hSC]; omega
      refine K_X11_soundTo_30 hC hT mem _ _ _ _ _ _ _ ⟨fun _ => ?_, fun q => absurd (nI_le (Nat.le_refl _) (by omega)) q⟩
      rw [nI_clamp (n := 2 * t k + v) (by omega), hln.2.2, show (nI (dln d (t k) v) : Int32) - 1 = nI (dln d (t k) v - 1) from pk_sub (b := 1) hln.1, nI_eq (by omega) (by omega), ← hSC]
      refine ⟨vp_in_nI (by omega) (by omega), fun q => ⟨_, C_behindWord _ hd hto hk he h2, ?_⟩, fun q => ?_⟩
      · rintro y m2 ⟨rfl, rfl⟩
        rw [← GB_is (show ¬ s + 1 < dln d (t k) v by omega)]
        have hGB : GB d t T (dn d - x) k ≤ 1000000 := by
          unfold GB
          split
          · split
            · exact hd.j (by omega) (by omega)
            · exact Nat.le_refl _
          · exact sa_far _ _
        rw [nI_add, eM, lesser_nI (by omega) (by omega)]
        exact ⟨_, rfl, rfl, rfl⟩
      · rw [GL_in (show s + 1 < dln d (t k) v by omega), hd.fr]
        refine ⟨fun q2 => ?_, fun q2 => ?_⟩
        · have hx0 : dn d - x = 0 := by
            rw [nI_leI (by omega) (by omega)] at q2
            omega
          rw [hx0, eM, nI_add, lesser_nI (by omega) (by omega)]
          exact ⟨_, rfl, rfl, rfl⟩
        · rw [nI_leI (by omega) (by omega)] at q2
          have hix := aix_lt (k := k) (v := v) (s := s + 1) (f := x) (by omega) (by omega) (by omega) (by omega)
          have hAf := LA_far (d := d) (t := t) (T := T) (dn d - x) k v (s + 1)
          rw [nI_1 s, aixI, nI_clamp (n := aix k v (s + 1) x) (by omega), h1 (by omega) (by omega), nI_add, eM, lesser_nI (by omega) (by omega)]
          exact ⟨vp_in_nI (by omega) (by omega), _, rfl, rfl, rfl⟩
    | succ c ih =>
      intro x hc hx
      have nx := ih (x + 1) (by omega) (by omega)
      rw [show x + 1 - f = (x - f) + 1 by omega, show SCf d (dsd d (t k) v s) f (x - f + 1) = SCf d (dsd d (t k) v s) f (x - f) + dc d (dsd d (t k) v s) (f + (x - f)) from rfl, show f + (x - f) = x by omega] at nx
      obtain ⟨c1, c2, c3⟩ := hd.co (dsd d (t k) v s) x hy (by omega)
      refine K_X11_soundTo_30 hC hT mem _ _ _ _ _ _ _ ⟨fun q => absurd q (nI_ge (by omega) (by omega)), fun _ => ?_⟩
      rw [show (4 : Int32) = nI 4 from rfl, pk_mul, nI_add, nI_clamp (n := 4 * (2 * t k + v) + s) (by omega), y1, c2, nI_add, nI_1 x, Nat.add_assoc]
      exact ⟨vp_in_nI (by omega) (by omega), c1, nx⟩
  refine K_X11_soundTo_0 hC hT mem _ _ _ _ _ ?_
  rw [nI_clamp (n := k) (by omega), t1, sm_ix2, hd.st, pk_sub (show f ≤ e by omega), show (nI (e - f) : Int32) - 1 = nI (e - f - 1) from pk_sub (b := 1) (by omega), pk_mul]
  have := key (e - f) f (by omega) (Nat.le_refl _)
  rw [Nat.sub_self] at this
  exact ⟨vp_in_nI (by omega) (by omega), this⟩
/-- how far the table has come: places from kc on; of the place ahead, frames from c on; of the frame ahead, ways below v, and of way v the sounds from s on -/
def AHS (d : PD) (t : Nat → Nat) (T kc c v s : Nat) (mem m : TMem) : Prop := (∀ k2 v2 s2 f2, QV d t T (k2, v2, s2) → f2 < dn d → (kc ≤ k2 ∨ (k2 + 1 = kc ∧ (c ≤ f2 ∨ (f2 + 1 = c ∧ (v2 < v ∨ (v2 = v ∧ s ≤ s2)))))) → m 208 (aix k2 v2 s2 f2) = nI (LA d t T (dn d - f2) k2 v2 s2)) ∧ ∀ o j, ¬ o = 208 → m o j = mem o j
theorem AHS.dm {kc c v s : Nat} {m : TMem} (h : AHS d t T kc c v s mem m) (hd : DM mem d) : DM m d := hd.of (h.2 187 0 (by omega)) (h.2 187 3 (by omega)) (h.2 187 4 (by omega)) (fun o q1 q2 => funext fun j => h.2 o j (by omega))
theorem AHS.to {kc c v s : Nat} {m : TMem} (h : AHS d t T kc c v s mem m) (hto : TOM mem d t T) : TOM m d t T := ⟨hto.1, by rw [h.2 187 9 (by omega)]; exact hto.2.1, fun k hk => by rw [h.2 194 k (by omega)]; exact hto.2.2 k hk⟩
set_option maxRecDepth 100000 in
theorem C_layAhead (l : Launch) (hd : DM mem d) (hto : TOM mem d t T) : TMv l i_X11_layAhead 4 99 [.inr 187] mem (AHS d t T 0 0 0 0 mem) := by
  refine tw_met (by decide) (Nat.le_of_ble_eq_true rfl) (fun κ hl hC hT => ?_)
  have h40 := hd.n40
  have h8 := hd.w8
  have hT12 := hto.1
  have ht : ∀ k, k < T → t k < dW d := fun k hk => (hto.2.2 k hk).2
  have hv2 : ∀ k v s, QV d t T (k, v, s) → v < 2 ∧ s < 4 := fun k v s hq => by
    have h1 := hd.wy (t k) (ht k hq.1)
    have h2 := hd.ln (t k) v (ht k hq.1) hq.2.1
    have h3 := hq.2.1
    have h4 := hq.2.2
    dsimp only at h3 h4
    omega
  have key72 : ∀ k f v s m, QV d t T (k, v, s) → f < dn d → AHS d t T (k + 1) (f + 1) v (s + 1) mem m → (∀ m2, AHS d t T (k + 1) (f + 1) v s mem m2 → WT κ 58 [some (.inr 187), some (.inl (nI k)), some (.inl (nI f)), some (.inl (nI v)), some (.inl (nI s + (-1))), none, none] [] m2) → ∀ c u, c + (f + u) = dn d → WT κ 72 [some (.inr 187), some (.inl (nI k)), some (.inl (nI f)), some (.inl (nI v)), some (.inl (nI s)), some (.inl (nI (mn u (fun u => sa (SC d (dsd d (t k) v s) f (u + 1)) (GL d t T (dn d - (f + u + 1)) k v s))))), some (.inl (nI (f + u + 1)))] [] m := by
    intro k f v s m hq hf hm next c
    obtain ⟨b1, b2⟩ := hv2 k v s hq
    have hkT := hq.1
    dsimp only at hkT
    have hdm := hm.dm hd
    have htm := hm.to hto
    induction c with
    | zero =>
      intro u hc
      have hix := aix_lt (k := k) (v := v) (s := s) (f := f) (by omega) b1 b2 (by omega)
      refine K_X11_layAhead_72 hC hT m _ _ _ _ _ _ ?_
      rw [hdm.fr, aixI, nI_clamp (n := aix k v s f) (by omega)]
      refine ⟨fun _ => ⟨vp_in_nI (by omega) (by omega), next _ ⟨fun k2 v2 s2 f2 q1 q2 q3 => ?_, fun o j q => by rw [ms_ne q]; exact hm.2 o j q⟩⟩, fun q => absurd (nI_lt (by omega) (by omega)) q⟩
      obtain ⟨z1, z2⟩ := hv2 k2 v2 s2 q1
      by_cases e : k2 = k ∧ v2 = v ∧ s2 = s ∧ f2 = f
      · obtain ⟨rfl, rfl, rfl, rfl⟩ := e
        rw [ms_eq, LA_sum k2 v2 s2 (dn d - f2) (by omega), show dn d - (dn d - f2) = f2 by omega]
        congr 1
        rw [show dn d - f2 = u by omega]
        exact mn_congr (fun x hx => by rw [show u - 1 - x = dn d - (f2 + x + 1) by omega])
      · rw [ms_sl (aix_ne z1 z2 (by omega) b1 b2 (by omega) e)]
        exact hm.1 k2 v2 s2 f2 q1 q2 (by omega)
    | succ c ih =>
      intro u hc
      have nx := ih (u + 1) (by omega)
      have hmf := mn_far u (fun u => sa (SC d (dsd d (t k) v s) f (u + 1)) (GL d t T (dn d - (f + u + 1)) k v s))
      have hsf := sa_far (SC d (dsd d (t k) v s) f (u + 1)) (GL d t T (dn d - (f + u + 1)) k v s)
      have hC1 := C_soundTo κ.1.2.1 (e := f + u + 1) hdm htm hq (show f < f + u + 1 by omega) (by omega) (fun z1 z2 => hm.1 k v (s + 1) (f + u + 1) ⟨hq.1, hq.2.1, z1⟩ z2 (by omega)) (fun z1 z2 u2 z3 => hm.1 (k + 1) u2 0 (f + u + 1) ⟨z1, z3, (hd.ln (t (k + 1)) u2 (ht _ z1) z3).1⟩ z2 (by omega))
      rw [show f + u + 1 - f = u + 1 by omega] at hC1
      refine K_X11_layAhead_72 hC hT m _ _ _ _ _ _ ?_
      rw [hdm.fr, nI_1 (f + u + 1)]
      refine ⟨fun q => absurd q (nI_nlt (by omega) (by omega)), fun _ => ⟨_, hC1, ?_⟩⟩
      rintro x m2 ⟨rfl, rfl⟩
      rw [lesser_nI (by omega) (by omega)]
      exact nx
  have key58 : ∀ k f v, k < T → v < dwy d (t k) → f < dn d → (∀ m, AHS d t T (k + 1) (f + 1) v 0 mem m → WT κ 24 [some (.inr 187), some (.inl (nI k)), some (.inl (nI f)), some (.inl (nI v + 1)), none, none, none] [] m) → ∀ c m, c ≤ dln d (t k) v → AHS d t T (k + 1) (f + 1) v c mem m → WT κ 58 [some (.inr 187), some (.inl (nI k)), some (.inl (nI f)), some (.inl (nI v)), some (.inl (nI c + (-1))), none, none] [] m := by
    intro k f v hk hv hf next c
    induction c with
    | zero =>
      intro m _ hm
      exact K_X11_layAhead_58 hC hT m _ _ _ _ ⟨fun _ => next m hm, fun q => absurd (by decide) q⟩
    | succ c ih =>
      intro m hc hm
      obtain ⟨b1, b2⟩ := hv2 k v c ⟨hk, hv, by show c < dln d (t k) v; omega⟩
      rw [pk_m1]
      refine K_X11_layAhead_58 hC hT m _ _ _ _ ⟨fun q => absurd q (nI_pos (by omega)), fun _ => ?_⟩
      have := key72 k f v c m ⟨hk, hv, by show c < dln d (t k) v; omega⟩ hf hm (fun m2 h2 => ih m2 (by omega) h2) (dn d - f) 0 (by omega)
      rw [nI_1]
      exact this
  have key24 : ∀ k f, k < T → f < dn d → (∀ m, AHS d t T (k + 1) f 0 4 mem m → WT κ 18 [some (.inr 187), some (.inl (nI k)), some (.inl (nI f + (-1))), none, none, none, none] [] m) → ∀ c v m, c + v = dwy d (t k) → AHS d t T (k + 1) (f + 1) v 4 mem m → WT κ 24 [some (.inr 187), some (.inl (nI k)), some (.inl (nI f)), some (.inl (nI v)), none, none, none] [] m := by
    intro k f hk hf next c
    have hw := ht k hk
    have hwy := hd.wy (t k) hw
    induction c with
    | zero =>
      intro v m hc hm
      have : v = dwy d (t k) := by omega
      subst this
      have hdm := hm.dm hd
      refine K_X11_layAhead_24 hC hT m _ _ _ ?_
      rw [nI_clamp (n := k) (by omega), ((hm.to hto).2.2 k hk).1, nI_clamp (n := t k) (by omega), (hdm.wy (t k) hw).2.2]
      refine ⟨vp_in_nI (by omega) (by omega), vp_in_nI (by omega) (by omega), fun _ => next m ⟨fun k2 v2 s2 f2 q1 q2 q3 => ?_, hm.2⟩, fun q => absurd (nI_le (Nat.le_refl _) (by omega)) q⟩
      refine hm.1 k2 v2 s2 f2 q1 q2 ?_
      by_cases e : k2 = k ∧ f2 = f
      · obtain ⟨rfl, rfl⟩ := e
        exact Or.inr ⟨rfl, Or.inr ⟨rfl, Or.inl q1.2.1⟩⟩
      · obtain ⟨b1, b2⟩ := hv2 k2 v2 s2 q1
        omega
    | succ c ih =>
      intro v m hc hm
      have hdm := hm.dm hd
      have hln := hd.ln (t k) v hw (by omega)
      refine K_X11_layAhead_24 hC hT m _ _ _ ?_
      rw [nI_clamp (n := k) (by omega), ((hm.to hto).2.2 k hk).1, nI_clamp (n := t k) (by omega), (hdm.wy (t k) hw).2.2, sm_ix2, nI_clamp (n := 2 * t k + v) (by omega), (hdm.ln (t k) v hw (by omega)).2.2, Int32.sub_eq_add_neg]
      refine ⟨vp_in_nI (by omega) (by omega), vp_in_nI (by omega) (by omega), fun q => absurd q (nI_ge (by omega) (by omega)), fun _ => ⟨vp_in_nI (by omega) (by omega), ?_⟩⟩
      refine key58 k f v hk (by omega) hf (fun m2 h2 => ?_) (dln d (t k) v) m (Nat.le_refl _) ⟨fun k2 v2 s2 f2 q1 q2 q3 => hm.1 k2 v2 s2 f2 q1 q2 ?_, hm.2⟩
      · rw [nI_1]
        refine ih (v + 1) m2 (by omega) ⟨fun k2 v2 s2 f2 q1 q2 q3 => h2.1 k2 v2 s2 f2 q1 q2 ?_, h2.2⟩
        obtain ⟨b1, b2⟩ := hv2 k2 v2 s2 q1
        omega
      · by_cases e : k2 = k ∧ f2 = f ∧ v2 = v
        · obtain ⟨rfl, rfl, rfl⟩ := e
          have h5 := q1.2.2
          dsimp only at h5
          omega
        · omega
  have key18 : ∀ k, k < T → (∀ m, AHS d t T k (dn d) 0 4 mem m → WT κ 7 [some (.inr 187), some (.inl (nI k + (-1))), none, none, none, none, none] [] m) → ∀ c m, c ≤ dn d → AHS d t T (k + 1) c 0 4 mem m → WT κ 18 [some (.inr 187), some (.inl (nI k)), some (.inl (nI c + (-1))), none, none, none, none] [] m := by
    intro k hk next c
    induction c with
    | zero =>
      intro m _ hm
      exact K_X11_layAhead_18 hC hT m _ _ ⟨fun _ => next m ⟨fun k2 v2 s2 f2 q1 q2 q3 => hm.1 k2 v2 s2 f2 q1 q2 (by have := hv2 k2 v2 s2 q1; omega), hm.2⟩, fun q => absurd (by decide) q⟩
    | succ c ih =>
      intro m hc hm
      rw [pk_m1]
      exact K_X11_layAhead_18 hC hT m _ _ ⟨fun q => absurd q (nI_pos (by omega)), fun _ => key24 k c hk (by omega) (fun m2 h2 => ih m2 (by omega) h2) (dwy d (t k)) 0 m (by omega) hm⟩
  have key7 : ∀ kc m, kc ≤ T → AHS d t T kc (dn d) 0 4 mem m → WT κ 7 [some (.inr 187), some (.inl (nI kc + (-1))), none, none, none, none, none] [] m := by
    intro kc
    induction kc with
    | zero =>
      intro m _ hm
      exact K_X11_layAhead_7 hC hT m _ ⟨fun _ => ⟨rfl, fun k2 v2 s2 f2 q1 q2 q3 => hm.1 k2 v2 s2 f2 q1 q2 (by omega), hm.2⟩, fun q => absurd (by decide) q⟩
    | succ k ih =>
      intro m hc hm
      rw [pk_m1]
      refine K_X11_layAhead_7 hC hT m _ ⟨fun q => absurd q (nI_pos (by omega)), fun _ => ?_⟩
      rw [(hm.dm hd).fr, Int32.sub_eq_add_neg]
      exact key18 k (by omega) (fun m2 h2 => ih m2 (by omega) h2) (dn d) m (Nat.le_refl _) hm
  refine K_X11_layAhead_0 hC hT mem ?_
  rw [hto.2.1, Int32.sub_eq_add_neg]
  refine key7 T mem (Nat.le_refl _) ⟨fun k2 v2 s2 f2 q1 q2 q3 => ?_, fun _ _ _ => rfl⟩
  have g1 : k2 < T := q1.1
  have := hv2 k2 v2 s2 q1
  omega
end MLAY_
