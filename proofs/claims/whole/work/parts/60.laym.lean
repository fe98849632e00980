/-! LAYING of the reference: the walk; LAY -/
def LDM (d : PD) (t : Nat → Nat) (T x : Nat) (m : TMem) : Prop := ∀ f, f < x → m 195 f = nI (dsd d (t (PT d t T f).1) (PT d t T f).2.1 (PT d t T f).2.2) ∧ m 196 f = nI (PT d t T f).1 ∧ m 197 f = nI (PT d t T f).2.1
def LST (d : PD) (t : Nat → Nat) (T x : Nat) (mem m : TMem) : Prop := (∀ k v s f, QV d t T (k, v, s) → f < dn d → m 208 (aix k v s f) = nI (LA d t T (dn d - f) k v s)) ∧ LDM d t T x m ∧ m 187 11 = 0 ∧ ∀ o j, ¬ (o = 187 ∧ j = 11) → ¬ (195 ≤ o ∧ o < 198) → ¬ o = 208 → m o j = mem o j
theorem LST.dm {d : PD} {t : Nat → Nat} {T x : Nat} {mem m : TMem} (h : LST d t T x mem m) (hd : DM mem d) : DM m d := hd.of (h.2.2.2 187 0 (by omega) (by omega) (by omega)) (h.2.2.2 187 3 (by omega) (by omega) (by omega)) (h.2.2.2 187 4 (by omega) (by omega) (by omega)) (fun o q1 q2 => funext fun j => h.2.2.2 o j (by omega) (by omega) (by omega))
theorem LST.to {d : PD} {t : Nat → Nat} {T x : Nat} {mem m : TMem} (h : LST d t T x mem m) (hto : TOM mem d t T) : TOM m d t T := ⟨hto.1, by rw [h.2.2.2 187 9 (by omega) (by omega) (by omega)]; exact hto.2.1, fun k hk => by rw [h.2.2.2 194 k (by omega) (by omega) (by omega)]; exact hto.2.2 k hk⟩
def LYa (d : PD) (t : Nat → Nat) (T : Nat) : Int32 := if LYc d t T < 1000000 then nI (LYc d t T) else -3
def LYM (d : PD) (t : Nat → Nat) (T : Nat) (mem m : TMem) : Prop := ((1000000 ≤ LYc d t T ∧ m 187 11 = 0) ∨ (LYc d t T < 1000000 ∧ m 187 11 = 1 ∧ LDM d t T (dn d) m)) ∧ ∀ o j, ¬ (o = 187 ∧ j = 11) → ¬ (195 ≤ o ∧ o < 198) → ¬ o = 208 → m o j = mem o j
set_option maxRecDepth 100000 in
theorem C_layM (l : Launch) {mem : TMem} {d : PD} {t : Nat → Nat} {T : Nat} (hd : DM mem d) (hto : TOM mem d t T) : TMi l i_X11_lay 5 125 [.inr 187] mem (fun y m => y = LYa d t T ∧ LYM d t T mem m) := by
  refine tw_met (by decide) (Nat.le_of_ble_eq_true rfl) (fun κ hl hC hT => ?_)
  have h40 := hd.n40
  have h8 := hd.w8
  have hT12 := hto.1
  have ht : ∀ k, k < T → t k < dW d := fun k hk => (hto.2.2 k hk).2
  have eM : (1000000 : Int32) = nI 1000000 := rfl
  have ms11 : ∀ (m : TMem) (x : Int32), ∀ o j, ¬ (o = 187 ∧ j = 11) → (mset m 187 11 x) o j = m o j := fun m x o j q => by
    by_cases e : o = 187
    · subst e; rw [ms_sl (by omega)]
    · rw [ms_ne e]
  have no : ∀ m, 1000000 ≤ LYc d t T → m 187 11 = 0 → (∀ o j, ¬ (o = 187 ∧ j = 11) → ¬ (195 ≤ o ∧ o < 198) → ¬ o = 208 → m o j = mem o j) → ∃ x, (some (.inl (-3)) : Option TV) = some (.inl x) ∧ x = LYa d t T ∧ LYM d t T mem m := fun m z1 z2 z3 => ⟨_, rfl, by unfold LYa; rw [if_neg (by omega)], Or.inl ⟨z1, z2⟩, z3⟩
  refine K_X11_lay_0 hC hT mem ?_
  rw [hto.2.1, hd.fr]
  refine ⟨fun q => no _ ?_ (by rw [ms_eq]) (fun o j q1 _ _ => ms11 mem 0 o j q1), fun q => ⟨fun q2 => no _ ?_ (by rw [ms_eq]) (fun o j q1 _ _ => ms11 mem 0 o j q1), fun q2 => ?_⟩⟩
  · rw [show LYc d t T = 1000000 from if_pos (Or.inl ((nI_eq (b := 0) (by omega) (by omega)).mp q))]
    exact Nat.le_refl _
  · rw [show LYc d t T = 1000000 from if_pos (Or.inr ((nI_eq (b := 0) (by omega) (by omega)).mp q2))]
    exact Nat.le_refl _
  have hT0 : 0 < T := by
    rcases Nat.eq_zero_or_pos T with z | z
    · exact absurd (congrArg nI z) q
    · exact z
  have hn : 0 < dn d := by
    rcases Nat.eq_zero_or_pos (dn d) with z | z
    · exact absurd (congrArg nI z) q2
    · exact z
  have eL : LYc d t T = dJ d 0 (t 0 + 1) + BW d t T (dn d) 0 := if_neg (by omega)
  have hBf := BW_far (d := d) (t := t) (T := T) (dn d) 0
  have hw0 := ht 0 hT0
  have t00 : mem 194 0 = nI (t 0) := (hto.2.2 0 hT0).1
  obtain ⟨b1, b2⟩ := hd.be 0 (t 0 + 1) (by omega) (by omega)
  rw [wi_0, wi_s] at b1 b2
  have hbe : ∀ m : TMem, (∀ o j, ¬ (o = 187 ∧ j = 11) → ¬ (195 ≤ o ∧ o < 198) → ¬ o = 208 → m o j = mem o j) → F_X11_behind m (-1) (nI (t 0)) = F_X11_behind mem (-1) (nI (t 0)) := fun m h => by
    unfold F_X11_behind
    rw [show m 193 = mem 193 from funext fun k => h 193 k (by omega) (by omega) (by omega)]
  have hm1 : ∀ o j, ¬ (o = 187 ∧ j = 11) → ¬ (195 ≤ o ∧ o < 198) → ¬ o = 208 → (mset mem 187 11 0) o j = mem o j := fun o j q1 _ _ => ms11 mem 0 o j q1
  rw [t00, hbe _ hm1]
  refine ⟨b1, ?_⟩
  rcases b2 with ⟨b2, b3⟩ | ⟨b3, b2⟩
  · rw [b2]
    exact ⟨fun z => absurd z (by decide), fun _ => no _ (by rw [eL, b3]; omega) (by rw [ms_eq]) hm1⟩
  rw [b2]
  refine ⟨fun _ => ?_, fun z => absurd (nI_pos' (by omega)) z⟩
  have hd1 : DM (mset mem 187 11 0) d := hd.of (hm1 187 0 (by omega) (by omega) (by omega)) (hm1 187 3 (by omega) (by omega) (by omega)) (hm1 187 4 (by omega) (by omega) (by omega)) (fun o q1 q2 => funext fun j => hm1 o j (by omega) (by omega) (by omega))
  have hto1 : TOM (mset mem 187 11 0) d t T := ⟨hto.1, by rw [hm1 187 9 (by omega) (by omega) (by omega)]; exact hto.2.1, fun k hk => by rw [hm1 194 k (by omega) (by omega) (by omega)]; exact hto.2.2 k hk⟩
  refine ⟨_, C_layAhead _ hd1 hto1, ?_⟩
  rintro m2 ⟨r1, r2⟩
  have hL2 : LST d t T 0 mem m2 := ⟨fun k v s f z1 z2 => r1 k v s f z1 z2 (by omega), fun f hf => by omega, by rw [r2 187 11 (by omega), ms_eq], fun o j z1 z2 z3 => by rw [r2 o j z3]; exact hm1 o j z1 z2 z3⟩
  have hbw : ∀ x m, LST d t T x mem m → ∀ k f, k < T → f < dn d → TMi κ.1.2.1 i_X11_bestWay 1 23 [.inr 187, .inl (nI k), .inl (nI f)] m (fun y m2 => y = nI (BW d t T (dn d - f) k) ∧ m2 = m) := fun x m hm k f hk hf => C_bestWay _ (hm.dm hd) (hm.to hto) hk (by omega) (fun _ v hv => hm.1 k v 0 f ⟨hk, hv, (hd.ln (t k) v (ht k hk) hv).1⟩ hf)
  have hb0 := hbw 0 m2 hL2 0 0 hT0 hn
  rw [Nat.sub_zero] at hb0
  refine ⟨_, hb0, ?_⟩
  rintro x m3 ⟨rfl, e3⟩
  subst e3
  rw [eM, nI_eq (by omega) (by omega)]
  refine ⟨fun z => no _ (by rw [eL, z]; omega) hL2.2.2.1 hL2.2.2.2, fun z => ?_⟩
  have hB : BW d t T (dn d) 0 < 1000000 := by omega
  have hBs : BW d t T (dn d) 0 ≤ 70 * 40 + 100 * 12 := by
    obtain ⟨u, u1, u2⟩ := mn_some hB
    have u3 : LA d t T (dn d) 0 u 0 = BW d t T (dn d) 0 := u2
    have := LA_fin hd ht (dn d) 0 u 0 (Nat.le_refl _) hT0 u1 (hd.ln (t 0) u hw0 u1).1 (by omega)
    omega
  have hLY : LYc d t T < 1000000 := by omega
  have fin : ∀ m, LST d t T (dn d) mem m → WT κ 60 [some (.inr 187), some (.inl (nI (BW d t T (dn d) 0))), some (.inl (nI (dn d))), some (.inl (nI T)), none, none, none, none, none] [] m := by
    intro m hm
    have htm := hm.to hto
    have ho : ∀ o j, ¬ (o = 187 ∧ j = 11) → ¬ (195 ≤ o ∧ o < 198) → ¬ o = 208 → (mset m 187 11 1) o j = mem o j := fun o j z1 z2 z3 => by rw [ms11 m 1 o j z1]; exact hm.2.2.2 o j z1 z2 z3
    refine K_X11_lay_60 hC hT m _ _ _ ?_
    rw [htm.2.1, (htm.2.2 0 hT0).1, hbe _ ho, b2, nI_add]
    refine ⟨fun _ => ⟨b1, _, rfl, ?_, Or.inr ⟨hLY, by rw [ms_eq], fun f hf => ?_⟩, ho⟩, fun z => absurd (nI_le (Nat.le_refl _) (by omega)) z⟩
    · unfold LYa
      rw [if_pos hLY, eL, Nat.add_comm]
    · rw [ms_ne (by omega), ms_ne (by omega), ms_ne (by omega)]
      exact hm.2.1 f hf
  have enter : ∀ k f m, k < T → f < dn d → LST d t T f mem m → WT κ 115 [some (.inr 187), some (.inl (nI (BW d t T (dn d) 0))), some (.inl (nI f)), some (.inl (nI k)), some (.inl (nI (fw d t T (dn d - f) k))), some (.inl (nI (2 * t k + fw d t T (dn d - f) k))), some (.inl 0), none, none] [] m → WT κ 60 [some (.inr 187), some (.inl (nI (BW d t T (dn d) 0))), some (.inl (nI f)), some (.inl (nI k)), none, none, none, none, none] [] m := by
    intro k f m hk hf hm next
    have htm := hm.to hto
    obtain ⟨t1, hw⟩ := htm.2.2 k hk
    have hwy := hd.wy (t k) hw
    have hfl := fw_lt (T := T) (m := dn d - f) hwy.1
    have hfi := fw_is (T := T) (m := dn d - f) hwy.1 hwy.2.1
    have hBk := BW_far (d := d) (t := t) (T := T) (dn d - f) k
    have way : ∀ u, u < dwy d (t k) → (u = fw d t T (dn d - f) k ∨ (¬ LA d t T (dn d - f) k u 0 = BW d t T (dn d - f) k ∧ WT κ 71 [some (.inr 187), some (.inl (nI (BW d t T (dn d) 0))), some (.inl (nI f)), some (.inl (nI k)), some (.inl (nI u + 1)), none, none, none, none] [] m)) → WT κ 71 [some (.inr 187), some (.inl (nI (BW d t T (dn d) 0))), some (.inl (nI f)), some (.inl (nI k)), some (.inl (nI u)), none, none, none, none] [] m := by
      intro u hu hor
      have hix := aix_lt (k := k) (v := u) (s := 0) (f := f) (by omega) (by omega) (by omega) (by omega)
      have hAu := LA_far (d := d) (t := t) (T := T) (dn d - f) k u 0
      refine K_X11_lay_71 hC hT m _ _ _ _ ?_
      rw [show (((2 * nI k + nI u) * 4 + 0) * 41 + nI f : Int32) = nI (aix k u 0 f) from aixI k u 0 f, nI_clamp (n := aix k u 0 f) (by omega), hm.1 k u 0 f ⟨hk, hu, (hd.ln (t k) u hw hu).1⟩ hf]
      refine ⟨vp_in_nI (by omega) (by omega), _, hbw f m hm k f hk hf, ?_⟩
      rintro y m4 ⟨rfl, rfl⟩
      rw [nI_clamp (n := k) (by omega), t1, sm_ix2, nI_eq (by omega) (by omega)]
      rcases hor with rfl | ⟨h1, h2⟩
      · exact ⟨fun _ => ⟨vp_in_nI (by omega) (by omega), next⟩, fun z => absurd hfi z⟩
      · exact ⟨fun z => absurd z h1, fun _ => h2⟩
    refine K_X11_lay_60 hC hT m _ _ _ ?_
    rw [htm.2.1]
    refine ⟨fun z => absurd z (nI_ge (by omega) (by omega)), fun _ => ?_⟩
    by_cases c : 1 < dwy d (t k) ∧ LA d t T (dn d - f) k 1 0 < LA d t T (dn d - f) k 0 0
    · have e1 : fw d t T (dn d - f) k = 1 := if_pos c
      refine way 0 (by omega) (Or.inr ⟨fun z => ?_, ?_⟩)
      · rw [e1] at hfi
        omega
      · exact way 1 c.1 (Or.inl e1.symm)
    · have e0 : fw d t T (dn d - f) k = 0 := if_neg c
      exact way 0 (by omega) (Or.inl e0.symm)
  have main : ∀ c f k v s m, dn d - f ≤ c → f < dn d → PT d t T f = (k, v, s) → QV d t T (k, v, s) → LA d t T (dn d - f) k v s < 1000000 → LST d t T f mem m → WT κ 115 [some (.inr 187), some (.inl (nI (BW d t T (dn d) 0))), some (.inl (nI f)), some (.inl (nI k)), some (.inl (nI v)), some (.inl (nI (2 * t k + v))), some (.inl (nI s)), none, none] [] m := by
    intro c
    induction c with
    | zero => intro f k v s m hc hf; omega
    | succ c ih =>
      intro f k v s m hc hf hp hq hfin hm
      have hk : k < T := hq.1
      have hv : v < dwy d (t k) := hq.2.1
      have hs : s < dln d (t k) v := hq.2.2
      have hw := ht k hk
      have hwy := hd.wy (t k) hw
      have hln := hd.ln (t k) v hw hv
      have after : ∀ e, f < e → e ≤ dn d → gon d t T (dn d - e) (k, v, s) → PT d t T (e - 1) = (k, v, s) → ∀ m2, LST d t T e mem m2 → WT κ 115 [some (.inr 187), some (.inl (nI (BW d t T (dn d) 0))), some (.inl (nI e)), some (.inl (nI k)), some (.inl (nI v)), some (.inl (nI (2 * t k + v))), some (.inl (nI (s + 1))), none, none] [] m2 := by
        intro e h1 h2 hg hpe m2 hm2
        have hG : GL d t T (dn d - e) k v s < 1000000 := hg.1
        have hpn : PT d t T e = nxt d t T (dn d - e) (k, v, s) := by
          have := PT_go hpe (by rw [show e - 1 + 1 = e by omega]; exact hg)
          rw [show e - 1 + 1 = e by omega] at this
          exact this
        by_cases c1 : s + 1 < dln d (t k) v
        · have hen : e < dn d := by
            rcases Nat.lt_or_ge e (dn d) with z | z
            · exact z
            · rw [GL_in c1, show dn d - e = 0 by omega] at hG
              exact absurd hG (Nat.lt_irrefl 1000000)
          have hpn2 : PT d t T e = (k, v, s + 1) := by rw [hpn]; exact nxt_in c1
          exact ih e k v (s + 1) m2 (by omega) hen hpn2 ⟨hk, hv, c1⟩ (by rw [← GL_in c1]; exact hG) hm2
        · have hd2 := hm2.dm hd
          have go60 : WT κ 60 [some (.inr 187), some (.inl (nI (BW d t T (dn d) 0))), some (.inl (nI e)), some (.inl (nI (k + 1))), none, none, none, none, none] [] m2 := by
            rcases Nat.lt_or_ge e (dn d) with hen | hen
            · have hqn := QV_nxt hd ht hq (m := dn d - e) (by omega) hG
              rw [nxt_on (q := (k, v, s)) c1] at hqn hpn
              have hk2 : k + 1 < T := hqn.1
              have hwy2 := hd.wy (t (k + 1)) (ht _ hk2)
              have hb : BW d t T (dn d - e) (k + 1) < 1000000 := by
                rw [GL_on c1 (by omega), if_neg (by omega)] at hG
                omega
              refine enter (k + 1) e m2 hk2 hen hm2 ?_
              exact ih e (k + 1) (fw d t T (dn d - e) (k + 1)) 0 m2 (by omega) hen hpn hqn (by rw [fw_is hwy2.1 hwy2.2.1]; exact hb) hm2
            · have e0 : dn d - e = 0 := by omega
              rw [e0] at hG
              have hkT : k + 1 = T := by
                apply Decidable.byContradiction
                intro z
                rw [GL_on c1 z, if_pos rfl] at hG
                omega
              have een : e = dn d := by omega
              subst een
              rw [hkT]
              exact fin m2 hm2
          refine K_X11_lay_115 hC hT m2 _ _ _ _ _ _ ?_
          rw [nI_clamp (n := 2 * t k + v) (by omega), (hd2.ln (t k) v hw hv).2.2, nI_1 k]
          exact ⟨vp_in_nI (by omega) (by omega), fun _ => go60, fun z => absurd (nI_le (by omega) (by omega)) z⟩
      have lay170 : ∀ e, f < e → e ≤ dn d → gon d t T (dn d - e) (k, v, s) → (∀ x, f ≤ x → x < e → PT d t T x = (k, v, s)) → ∀ i x m2, i + x = e → f ≤ x → LST d t T x mem m2 → WT κ 170 [some (.inr 187), some (.inl (nI (BW d t T (dn d) 0))), none, some (.inl (nI k)), some (.inl (nI v)), some (.inl (nI (2 * t k + v))), some (.inl (nI s)), some (.inl (nI e)), some (.inl (nI x))] [] m2 := by
        intro e h1 h2 hg hpx i
        induction i with
        | zero =>
          intro x m2 hi hx hm2
          have : x = e := by omega
          subst this
          refine K_X11_lay_170 hC hT m2 _ _ _ _ _ _ _ ⟨fun _ => ?_, fun z => absurd (nI_le (Nat.le_refl _) (by omega)) z⟩
          rw [nI_1 s]
          exact after x h1 h2 hg (hpx (x - 1) (by omega) (by omega)) m2 hm2
        | succ i ih2 =>
          intro x m2 hi hx hm2
          have hd2 := hm2.dm hd
          refine K_X11_lay_170 hC hT m2 _ _ _ _ _ _ _ ⟨fun z => absurd z (nI_ge (by omega) (by omega)), fun _ => ?_⟩
          rw [show (4 : Int32) = nI 4 from rfl, pk_mul, nI_add, nI_clamp (n := 4 * (2 * t k + v) + s) (by omega), nI_clamp (n := x) (by omega), (hd2.sd (t k) v s hw hv hs).2, nI_1 x]
          refine ⟨vp_in_nI (by omega) (by omega), vp_in_nI (by omega) (by omega), ih2 (x + 1) _ (by omega) (by omega) ⟨fun k2 v2 s2 f2 z1 z2 => by rw [ms_ne (by omega), ms_ne (by omega), ms_ne (by omega)]; exact hm2.1 k2 v2 s2 f2 z1 z2, fun g hg2 => ?_, by rw [ms_ne (by omega), ms_ne (by omega), ms_ne (by omega)]; exact hm2.2.2.1, fun o j z1 z2 z3 => by rw [ms_ne (by omega), ms_ne (by omega), ms_ne (by omega)]; exact hm2.2.2.2 o j z1 z2 z3⟩⟩
          by_cases e2 : g = x
          · subst e2
            rw [hpx g hx (by omega)]
            refine ⟨by rw [ms_ne (by omega), ms_ne (by omega), ms_eq], by rw [ms_ne (by omega), ms_eq], by rw [ms_eq]⟩
          · have := hm2.2.1 g (by omega)
            refine ⟨by rw [ms_ne (by omega), ms_ne (by omega), ms_sl e2]; exact this.1, by rw [ms_ne (by omega), ms_sl e2, ms_ne (by omega)]; exact this.2.1, by rw [ms_sl e2, ms_ne (by omega), ms_ne (by omega)]; exact this.2.2⟩
      have hix := aix_lt (k := k) (v := v) (s := s) (f := f) (by omega) (by omega) (by omega) (by omega)
      have hdm := hm.dm hd
      have htm := hm.to hto
      have search : ∀ i e, i + e = dn d → f < e → HOLD d t T f e k v s → (∀ x, f ≤ x → x < e → PT d t T x = (k, v, s)) → WT κ 132 [some (.inr 187), some (.inl (nI (BW d t T (dn d) 0))), some (.inl (nI f)), some (.inl (nI k)), some (.inl (nI v)), some (.inl (nI (2 * t k + v))), some (.inl (nI s)), some (.inl (nI e)), none] [] m := by
        intro i
        induction i with
        | zero =>
          intro e hi h1 hh hpx
          refine K_X11_lay_132 hC hT m _ _ _ _ _ _ _ ⟨_, C_soundTo _ hdm htm hq h1 (by omega) (fun z1 z2 => hm.1 k v (s + 1) e ⟨hk, hv, z1⟩ z2) (fun z1 z2 u z3 => hm.1 (k + 1) u 0 e ⟨z1, z3, (hd.ln (t (k + 1)) u (ht _ z1) z3).1⟩ z2), ?_⟩
          rintro y m4 ⟨rfl, rfl⟩
          have hsf := sa_far (SC d (dsd d (t k) v s) f (e - f)) (GL d t T (dn d - e) k v s)
          rw [aixI, nI_clamp (n := aix k v s f) (by omega), hm.1 k v s f hq hf, nI_eq (by omega) (by omega), HOLD_stop hh]
          exact ⟨vp_in_nI (by omega) (by omega), fun z => lay170 e h1 (by omega) z hpx (e - f) f m4 (by omega) (Nat.le_refl _) hm, fun z => by have := (HOLD_next hh h1 (by omega) z).1; omega⟩
        | succ i ih2 =>
          intro e hi h1 hh hpx
          refine K_X11_lay_132 hC hT m _ _ _ _ _ _ _ ⟨_, C_soundTo _ hdm htm hq h1 (by omega) (fun z1 z2 => hm.1 k v (s + 1) e ⟨hk, hv, z1⟩ z2) (fun z1 z2 u z3 => hm.1 (k + 1) u 0 e ⟨z1, z3, (hd.ln (t (k + 1)) u (ht _ z1) z3).1⟩ z2), ?_⟩
          rintro y m4 ⟨rfl, rfl⟩
          have hsf := sa_far (SC d (dsd d (t k) v s) f (e - f)) (GL d t T (dn d - e) k v s)
          rw [aixI, nI_clamp (n := aix k v s f) (by omega), hm.1 k v s f hq hf, nI_eq (by omega) (by omega), HOLD_stop hh, nI_1 e]
          refine ⟨vp_in_nI (by omega) (by omega), fun z => lay170 e h1 (by omega) z hpx (e - f) f m4 (by omega) (Nat.le_refl _) hm, fun z => ih2 (e + 1) (by omega) (by omega) (HOLD_next hh h1 (by omega) z).2 (fun x z1 z2 => ?_)⟩
          by_cases e2 : x = e
          · subst e2
            have := PT_st (hpx (x - 1) (by omega) (by omega)) (by rw [show x - 1 + 1 = x by omega]; exact z)
            rw [show x - 1 + 1 = x by omega] at this
            exact this
          · exact hpx x z1 (by omega)
      refine K_X11_lay_115 hC hT m _ _ _ _ _ _ ?_
      rw [nI_clamp (n := 2 * t k + v) (by omega), (hdm.ln (t k) v hw hv).2.2, nI_1 f]
      refine ⟨vp_in_nI (by omega) (by omega), fun z => absurd z (nI_ge (by omega) (by omega)), fun _ => search (dn d - (f + 1)) (f + 1) (by omega) (by omega) (HOLD_0 hf hfin) (fun x z1 z2 => ?_)⟩
      rw [show x = f by omega]
      exact hp
  have hwy0 := hd.wy (t 0) hw0
  have hfl0 := fw_lt (T := T) (m := dn d) hwy0.1
  refine enter 0 0 m3 hT0 hn hL2 ?_
  rw [Nat.sub_zero]
  exact main (dn d) 0 0 (fw d t T (dn d) 0) 0 m3 (by omega) hn rfl ⟨hT0, hfl0, (hd.ln (t 0) _ hw0 hfl0).1⟩ (by rw [Nat.sub_zero, fw_is hwy0.1 hwy0.2.1]; exact hB) hL2
