/-! LAYING of the class: the table, the walk -/
theorem GL_far {mem : TMem} {d : PD} {t : Nat → Nat} {T : Nat} (hd : DX mem d) (ht : ∀ k, k < T → t k < dW d) {m k v s : Nat} (hk : k < T) : GL d t T m k v s ≤ 2000000 := by
  have h8 := hd.w8
  have hw := ht k hk
  by_cases c : s + 1 < dln d (t k) v
  · rw [GL_in c]
    have := LA_far (d := d) (t := t) (T := T) m k v (s + 1)
    omega
  · by_cases c2 : k + 1 = T
    · rw [GL_end c c2]
      have := (hd.jo (t k + 1) 0 (by omega) (by omega)).2.2
      split <;> omega
    · rw [GL_on c c2]
      have hw2 := ht (k + 1) (by omega)
      have := (hd.jo (t k + 1) (t (k + 1) + 1) (by omega) (by omega)).2.2
      have := BW_far (d := d) (t := t) (T := T) m (k + 1)
      split <;> omega
theorem sv2 {a b st c : Nat} (ha : a ≤ 2000000) (hb : b ≤ 1000000) (hst : st ≤ 20) (hc : c ≤ 50) : imin 1000000 (imin (nI a) (nI b + nI st) + nI c) = nI (sa (min a (b + st)) c) := by
  rw [nI_add, imin_nI (by omega) (by omega), nI_add, show (1000000 : Int32) = nI 1000000 from rfl, imin_nI (by omega) (by omega)]
  rfl
def LHX (d : PD) (t : Nat → Nat) (T c : Nat) (mem m : TMem) : Prop := (∀ f, c ≤ f → f ≤ dn d → ROWX d t T f m) ∧ ∀ o j, (o < 112 ∨ 153 ≤ o) → m o j = mem o j
set_option maxRecDepth 100000 in
theorem C_lookAhead3 (l : Launch) {mem : TMem} {d : PD} {t : Nat → Nat} {T : Nat} (hd : DX mem d) (hT12 : T ≤ 12) (ht : ∀ k, k < T → t k < dW d) (hk : TKC d t T mem) : TMv l i_X3_lookAhead 2 50 [.inr 108, .inr 1] mem (LHX d t T 0 mem) := by
  refine tw_met (by decide) (Nat.le_of_ble_eq_true rfl) (fun κ hl hC hT => ?_)
  have h40 := hd.n40
  have h8 := hd.w8
  have hdm : ∀ m : TMem, (∀ o j, (o < 112 ∨ 153 ≤ o) → m o j = mem o j) → DX m d := fun m ho => hd.of (fun o q => funext fun j => ho o j (by omega))
  have hkm : ∀ m : TMem, (∀ o j, (o < 112 ∨ 153 ≤ o) → m o j = mem o j) → TKC d t T m := fun m ho => ⟨fun k v s q1 q2 q3 => by rw [ho 109 _ (by omega)]; exact hk.1 k v s q1 q2 q3, fun k q => by rw [ho 110 k (by omega)]; exact hk.2.1 k q, by rw [ho 108 4 (by omega)]; exact hk.2.2⟩
  have key38 : ∀ f, f < dn d → (∀ m, LHX d t T f mem m → WT κ 20 [some (.inr 108), some (.inr 1), some (.inl (nI (dn d))), some (.inl (nI f + (-1))), none, none] [] m) → ∀ c sl m, c + sl = 8 * T → LHX d t T (f + 1) mem m → (∀ x, x < 8 * T → m (112 + f) x = nI (if x < sl then LSf d t T (dn d - f) x else 1000000)) → WT κ 38 [some (.inr 108), some (.inr 1), some (.inl (nI (dn d))), some (.inl (nI f)), some (.inl (nI sl)), none] [] m := by
    intro f hf next c
    induction c with
    | zero =>
      intro sl m hc hm hr
      have hkk := hkm m hm.2
      refine K_X3_lookAhead_38 hC hT m _ _ _ ?_
      rw [hkk.2.2, show (8 : Int32) = nI 8 from rfl, pk_mul]
      refine ⟨fun _ => next m ⟨fun g q1 q2 => ?_, hm.2⟩, fun q => absurd (nI_le (by omega) (by omega)) q⟩
      by_cases e : g = f
      · subst e
        intro x hx
        rw [hr x hx, if_pos (by omega)]
      · exact hm.1 g (by omega) q2
    | succ c ih =>
      intro sl m hc hm hr
      have hkk := hkm m hm.2
      have hdd := hdm m hm.2
      have hrow := hm.1 (f + 1) (Nat.le_refl _) (by omega)
      obtain ⟨k, v, s, hv, hs, rfl⟩ : ∃ k v s, v < 2 ∧ s < 4 ∧ sl = 8 * k + 4 * v + s := ⟨sl / 8, sl % 8 / 4, sl % 4, by omega, by omega, by omega⟩
      have hkT : k < T := by omega
      have hw := ht k hkT
      have eL := LSf_ix (d := d) (t := t) (T := T) (m := dn d - f) (k := k) hv hs
      refine K_X3_lookAhead_38 hC hT m _ _ _ ?_
      rw [hkk.2.2, show (8 : Int32) = nI 8 from rfl, pk_mul, nI_clamp (n := 8 * k + 4 * v + s) (by omega), hkk.1 k v s hkT hv hs, nI_1 (8 * k + 4 * v + s)]
      refine ⟨fun q => absurd q (nI_ge (by omega) (by omega)), fun _ => ⟨vp_in_nI (by omega) (by omega), ?_⟩⟩
      by_cases ex : v < dwy d (t k) ∧ s < dln d (t k) v
      · have hq : QV d t T (k, v, s) := ⟨hkT, ex.1, ex.2⟩
        have hy := (hdd.sd (t k) v s hw ex.1 ex.2).1
        obtain ⟨c1, c2, c3⟩ := hdd.co (dsd d (t k) v s) f hy hf
        obtain ⟨g1, g2⟩ := go_is hdd hT12 ht hkk hrow (by omega) hq
        have hA := hrow (8 * k + 4 * v + s) (by omega)
        rw [LSf_ix hv hs] at hA
        unfold LSv at hA
        rw [if_pos ex] at hA
        have e1 : sd1 d t k v s = nI (dsd d (t k) v s) := if_pos ex
        rw [e1, nI_1 f, nI_clamp (n := f) (by omega), nI_clamp (n := f + 1) (by omega), g2, hA, hdd.st, c2, sv2 (GL_far hd ht hkT) (LA_far _ _ _ _) hd.s20 c3]
        refine ⟨fun q => absurd q (nI_nm1 (by omega)), fun _ => ⟨g1, ⟨vp_in_nI (by omega) (by omega), vp_in_nI (by omega) (by omega)⟩, vp_in_nI (by omega) (by omega), c1, ih _ _ (by omega) ⟨fun g q1 q2 x hx => ?_, fun o j q => ?_⟩ (fun x hx => ?_)⟩⟩
        · rw [ms_ne (by omega)]
          exact hm.1 g q1 q2 x hx
        · rw [ms_ne (by omega)]
          exact hm.2 o j q
        · by_cases e : x = 8 * k + 4 * v + s
          · subst e
            rw [ms_eq, if_pos (by omega), eL]
            unfold LSv
            rw [if_pos ex]
            obtain ⟨m1, hm1⟩ : ∃ m1, dn d - f = m1 + 1 := ⟨dn d - f - 1, by omega⟩
            rw [hm1, LA_s, show dn d - (m1 + 1) = f by omega, show dn d - (f + 1) = m1 by omega]
          · rw [ms_sl e, hr x hx]
            congr 1
            by_cases e2 : x < 8 * k + 4 * v + s
            · rw [if_pos e2, if_pos (by omega)]
            · rw [if_neg e2, if_neg (by omega)]
      · have e1 : sd1 d t k v s = -1 := if_neg ex
        rw [e1]
        refine ⟨fun _ => ih _ _ (by omega) hm (fun x hx => ?_), fun q => absurd rfl q⟩
        rw [hr x hx]
        congr 1
        by_cases e : x = 8 * k + 4 * v + s
        · subst e
          rw [if_neg (by omega), if_pos (by omega), eL]
          unfold LSv
          rw [if_neg ex]
        · by_cases e2 : x < 8 * k + 4 * v + s
          · rw [if_pos e2, if_pos (by omega)]
          · rw [if_neg e2, if_neg (by omega)]
  have key20 : ∀ c m, c ≤ dn d → LHX d t T c mem m → WT κ 20 [some (.inr 108), some (.inr 1), some (.inl (nI (dn d))), some (.inl (nI c + (-1))), none, none] [] m := by
    intro c
    induction c with
    | zero =>
      intro m _ hm
      exact K_X3_lookAhead_20 hC hT m _ _ ⟨fun _ => ⟨rfl, hm⟩, fun q => absurd (by decide) q⟩
    | succ c ih =>
      intro m hc hm
      rw [pk_m1]
      refine K_X3_lookAhead_20 hC hT m _ _ ⟨fun q => absurd q (nI_pos (by omega)), fun _ => ?_⟩
      rw [nI_clamp (n := c) (by omega)]
      refine ⟨vp_in_nI (by omega) (by omega), _, C_fillT _ (n := 96) (shr_111 c (by omega)) (by omega), ?_⟩
      rintro m3 rfl
      refine key38 c (by omega) (fun m2 h2 => ih m2 (by omega) h2) (8 * T) 0 _ (by omega) ⟨fun g q1 q2 x hx => ?_, fun o j q => ?_⟩ (fun x hx => ?_)
      · rw [mfill_o (by omega)]
        exact hm.1 g q1 q2 x hx
      · rw [mfill_o (by omega)]
        exact hm.2 o j q
      · rw [mfill_at (by omega), if_neg (by omega)]
        rfl
  refine K_X3_lookAhead_0 hC hT mem ?_
  rw [hd.fr, nI_clamp (n := dn d) (by omega), Int32.sub_eq_add_neg]
  refine ⟨vp_in_nI (by omega) (by omega), _, C_fillT _ (n := 96) (shr_111 (dn d) (by omega)) (by omega), ?_⟩
  rintro m3 rfl
  refine key20 (dn d) _ (Nat.le_refl _) ⟨fun g q1 q2 x hx => ?_, fun o j q => ?_⟩
  · have : g = dn d := by omega
    subst this
    rw [mfill_at (by omega), Nat.sub_self, LSf_0]
    rfl
  · rw [mfill_o (by omega)]
def sq (q : Nat × Nat × Nat) : Nat := 8 * q.1 + 4 * q.2.1 + q.2.2
set_option maxRecDepth 100000 in
theorem C_walk3 (l : Launch) {mem mM : TMem} {d : PD} {t : Nat → Nat} {T : Nat} (hd : DX mem d) (hM : DM mM d) (hT12 : T ≤ 12) (ht : ∀ k, k < T → t k < dW d) (hk : TKC d t T mem) (hr : ∀ f, f ≤ dn d → ROWX d t T f mem) (hn : 0 < dn d) (hT0 : 0 < T) : TMv l i_X3_walk 2 50 [.inr 108, .inr 1] mem (fun m => (∀ f, f < dn d → m 153 f = nI (sq (PT d t T f))) ∧ ∀ o j, ¬ o = 153 → m o j = mem o j) := by
  refine tw_met (by decide) (Nat.le_of_ble_eq_true rfl) (fun κ hl hC hT => ?_)
  have h40 := hd.n40
  have h8 := hd.w8
  have eM : (1000000 : Int32) = nI 1000000 := rfl
  have key : ∀ c f m, c + (f + 1) = dn d → (∀ g, g ≤ f → m 153 g = nI (sq (PT d t T g))) → (∀ o j, ¬ o = 153 → m o j = mem o j) → WT κ 22 [some (.inr 108), some (.inr 1), some (.inl (nI (dn d))), some (.inl (nI (sq (PT d t T f)))), some (.inl (nI (f + 1))), none] [] m := by
    intro c
    induction c with
    | zero =>
      intro f m hc hm ho
      exact K_X3_walk_22 hC hT m _ _ _ ⟨fun _ => ⟨rfl, fun g hg => hm g (by omega), ho⟩, fun q => absurd (nI_le (by omega) (by omega)) q⟩
    | succ c ih =>
      intro f m hc hm ho
      have hdd : DX m d := hd.of (fun o q => funext fun j => ho o j (by omega))
      have hkk : TKC d t T m := ⟨fun k v s q1 q2 q3 => by rw [ho 109 _ (by omega)]; exact hk.1 k v s q1 q2 q3, fun k q => by rw [ho 110 k (by omega)]; exact hk.2.1 k q, by rw [ho 108 4 (by omega)]; exact hk.2.2⟩
      have hrr : ∀ f, f ≤ dn d → ROWX d t T f m := fun f hf x hx => by rw [ho _ _ (by omega)]; exact hr f hf x hx
      have hqv := QV_PT hM ht hT0 f (by omega)
      have stay : PT d t T (f + 1) = PT d t T f → vp_in (nI (f + 1)) 40 ∧ WT κ 22 [some (.inr 108), some (.inr 1), some (.inl (nI (dn d))), some (.inl (nI (sq (PT d t T f)))), some (.inl (nI (f + 1 + 1))), none] [] (mset m 153 (f + 1) (nI (sq (PT d t T f)))) := fun e => by
        refine ⟨vp_in_nI (by omega) (by omega), ?_⟩
        rw [← e]
        refine ih (f + 1) _ (by omega) (fun g hg => ?_) (fun o j q => by rw [ms_ne q]; exact ho o j q)
        by_cases e2 : g = f + 1
        · subst e2; rw [ms_eq]
        · rw [ms_sl e2]; exact hm g (by omega)
      have move : ∀ x, x = nI (sq (PT d t T (f + 1))) → vp_in (nI (f + 1)) 40 ∧ WT κ 22 [some (.inr 108), some (.inr 1), some (.inl (nI (dn d))), some (.inl x), some (.inl (nI (f + 1 + 1))), none] [] (mset m 153 (f + 1) x) := fun x hx => by
        refine ⟨vp_in_nI (by omega) (by omega), ?_⟩
        rw [hx]
        refine ih (f + 1) _ (by omega) (fun g hg => ?_) (fun o j q => by rw [ms_ne q]; exact ho o j q)
        by_cases e2 : g = f + 1
        · subst e2; rw [ms_eq]
        · rw [ms_sl e2]; exact hm g (by omega)
      generalize hq : PT d t T f = q at *
      obtain ⟨k, v, s⟩ := q
      obtain ⟨v1, v2, v3⟩ := id hqv
      dsimp only at v1 v2 v3
      have hwy := hd.wy (t k) (ht k v1)
      have hln := hd.ln (t k) v (ht k v1) v2
      have esq : sq (k, v, s) = 8 * k + 4 * v + s := rfl
      rw [esq] at stay ⊢
      obtain ⟨g1, g2⟩ := go_is hdd hT12 ht hkk (hrr (f + 1) (by omega)) (by omega) hqv
      obtain ⟨g3, g4⟩ := hs_is hdd hT12 ht hkk hqv
      have hGf := GL_far (v := v) (s := s) (m := dn d - (f + 1)) hd ht v1
      have hAf := LA_far (d := d) (t := t) (T := T) (dn d - (f + 1)) k v s
      have hA := hrr (f + 1) (by omega) (8 * k + 4 * v + s) (by omega)
      rw [LSf_ix (by omega) (by omega)] at hA
      unfold LSv at hA
      rw [if_pos ⟨v2, v3⟩] at hA
      have hst := hd.s20
      refine K_X3_walk_22 hC hT m _ _ _ ⟨fun q => absurd q (nI_ge (by omega) (by omega)), fun _ => ⟨g1, ?_⟩⟩
      rw [g2, nI_clamp (n := f + 1) (by omega), nI_clamp (n := 8 * k + 4 * v + s) (by omega), hA, hdd.st, nI_add, eM, nI_leI (by omega) (by omega), nI_ltI (by omega) (by omega), nI_1 (f + 1)]
      refine ⟨fun q => stay (PT_st hq (fun z => by have := z.1; dsimp only at this; omega)), fun q => ⟨⟨vp_in_nI (by omega) (by omega), vp_in_nI (by omega) (by omega)⟩, fun q2 => stay (PT_st hq (fun z => by have := z.2; dsimp only at this; omega)), fun q2 => ⟨g3, ?_⟩⟩⟩
      have hgo : gon d t T (dn d - (f + 1)) (k, v, s) := ⟨by dsimp only; omega, by dsimp only; omega⟩
      have ePT := PT_go hq hgo
      rw [g4]
      by_cases c1 : s + 1 < dln d (t k) v
      · rw [if_pos c1]
        refine ⟨fun z => absurd z (by decide), fun _ => ?_⟩
        rw [nI_1]
        refine move _ ?_
        rw [ePT, nxt_in c1]
        rfl
      · rw [if_neg c1]
        have hkT : k + 1 < T := by
          have := (QV_nxt hM ht hqv (m := dn d - (f + 1)) (by omega) hgo.1).1
          rw [nxt_on c1] at this
          exact this
        have e8 : nI (8 * k + 4 * v + s) / 8 = nI k := by
          have := pk_div (a := 8 * k + 4 * v + s) (d := 8) (by omega) (by omega) (by omega)
          rw [show (8 * k + 4 * v + s) / 8 = k by omega] at this
          exact this
        obtain ⟨s1, s2, s3⟩ := fS_is hdd hT12 ht (hrr (f + 1) (by omega)) (by omega) hkT
        rw [e8, nI_1 k]
        refine ⟨fun _ => ⟨s1, ?_⟩, fun z => absurd rfl z⟩
        refine move _ ?_
        rw [s2, ePT, nxt_on c1]
        rfl
  obtain ⟨s1, s2, s3⟩ := fS_is hd hT12 ht (hr 0 (by omega)) (by omega) hT0
  have e0 : F_X3_firstSlot mem 0 0 = nI (sq (PT d t T 0)) := by
    rw [show F_X3_firstSlot mem 0 0 = F_X3_firstSlot mem (nI 0) (nI 0) from rfl, s2, Nat.sub_zero]
    rfl
  refine K_X3_walk_0 hC hT mem ⟨s1, ?_⟩
  rw [hd.fr, e0]
  refine key (dn d - 1) 0 _ (by omega) (fun g hg => ?_) (fun o j q => by rw [ms_ne q])
  have : g = 0 := by omega
  subst this
  rw [ms_eq]
def LYc (d : PD) (t : Nat → Nat) (T : Nat) : Nat := if T = 0 ∨ dn d = 0 then 1000000 else dJ d 0 (t 0 + 1) + BW d t T (dn d) 0
def LYX (d : PD) (t : Nat → Nat) (T : Nat) (mem m : TMem) : Prop := ((1000000 ≤ LYc d t T ∧ m 108 5 = 0) ∨ (LYc d t T < 1000000 ∧ m 108 5 = 1 ∧ TKC d t T m ∧ ∀ f, f < dn d → m 153 f = nI (sq (PT d t T f)))) ∧ ∀ o j, (o < 108 ∨ 154 ≤ o) → m o j = mem o j
set_option maxRecDepth 100000 in
theorem C_find3 (l : Launch) {mem mM : TMem} {d : PD} {t : Nat → Nat} {T : Nat} (hd : DX mem d) (hM : DM mM d) (hto : TOX mem d t T) : TMi l i_X3_find 3 75 [.inr 108, .inr 1, .inr 10, .inr 106] mem (fun x m => x = nI (LYc d t T) ∧ LYX d t T mem m) := by
  refine tw_met (by decide) (Nat.le_of_ble_eq_true rfl) (fun κ hl hC hT => ?_)
  have h40 := hd.n40
  have h8 := hd.w8
  have hT12 := hto.1
  have ht : ∀ k, k < T → t k < dW d := fun k hk => (hto.2.2 k hk).2
  have eM : (1000000 : Int32) = nI 1000000 := rfl
  have no : (T = 0 ∨ dn d = 0) → ∃ x, (some (.inl 1000000) : Option TV) = some (.inl x) ∧ x = nI (LYc d t T) ∧ LYX d t T mem (mset mem 108 5 0) := fun z => by
    have e : LYc d t T = 1000000 := if_pos z
    refine ⟨_, rfl, by rw [e]; rfl, Or.inl ⟨by rw [e]; exact Nat.le_refl _, by rw [ms_eq]⟩, fun o j q => by rw [ms_ne (by omega)]⟩
  refine K_X3_find_0 hC hT mem ?_
  rw [hto.2.1, hd.fr]
  refine ⟨fun q => no (Or.inl ((nI_eq (b := 0) (by omega) (by omega)).mp q)), fun q => ⟨fun q2 => no (Or.inr ((nI_eq (b := 0) (by omega) (by omega)).mp q2)), fun q2 => ?_⟩⟩
  have hT0 : 0 < T := by
    rcases Nat.eq_zero_or_pos T with z | z
    · exact absurd (congrArg nI z) q
    · exact z
  have hn : 0 < dn d := by
    rcases Nat.eq_zero_or_pos (dn d) with z | z
    · exact absurd (congrArg nI z) q2
    · exact z
  have e : LYc d t T = dJ d 0 (t 0 + 1) + BW d t T (dn d) 0 := if_neg (by omega)
  have hd1 : DX (mset mem 108 5 0) d := hd.of (fun o q => funext fun j => by rw [ms_ne (by omega)])
  have ht1 : TOX (mset mem 108 5 0) d t T := hto.of (by rw [ms_ne (by omega)]) (fun k => by rw [ms_ne (by omega)])
  refine ⟨_, C_takeRow _ hd1 ht1, ?_⟩
  rintro m2 ⟨k1, k2⟩
  have hd2 : DX m2 d := hd1.of (fun o q => funext fun j => k2 o j (by omega) (by omega) (by omega))
  refine ⟨_, C_lookAhead3 _ hd2 hT12 ht k1, ?_⟩
  rintro m3 ⟨r1, r2⟩
  have hd3 : DX m3 d := hd2.of (fun o q => funext fun j => r2 o j (by omega))
  have hk3 : TKC d t T m3 := ⟨fun k v s q1 q2 q3 => by rw [r2 109 _ (by omega)]; exact k1.1 k v s q1 q2 q3, fun k q => by rw [r2 110 k (by omega)]; exact k1.2.1 k q, by rw [r2 108 4 (by omega)]; exact k1.2.2⟩
  have ht3 : TOX m3 d t T := ht1.of (by rw [r2 106 1 (by omega), k2 106 1 (by omega) (by omega) (by omega)]) (fun k => by rw [r2 107 k (by omega), k2 107 k (by omega) (by omega) (by omega)])
  have hrr : ∀ f, f ≤ dn d → ROWX d t T f m3 := fun f hf => r1 f (by omega) hf
  obtain ⟨a1, a2⟩ := at106 ht3 hT0
  have a2 : F_X7_at_106 m3 0 = nI (t 0) := a2
  have hw := ht 0 hT0
  obtain ⟨j1, j2, j3⟩ := hd3.jo 0 (t 0 + 1) (by omega) (by omega)
  rw [wi_0, wi_s] at j1 j2
  obtain ⟨s1, s2, s3⟩ := fS_is hd3 hT12 ht (hrr 0 (by omega)) (by omega) hT0
  rw [Nat.sub_zero] at s2 s3
  have s2 : F_X3_firstSlot m3 0 0 = nI (8 * 0 + 4 * fw d t T (dn d) 0) := s2
  have s3 : m3 112 (8 * 0 + 4 * fw d t T (dn d) 0) = nI (BW d t T (dn d) 0) := s3
  have hfw := fw_2 (d := d) (t := t) (T := T) (dn d) 0
  have hB := BW_far (d := d) (t := t) (T := T) (dn d) 0
  have e15 : m3 108 5 = 0 := by rw [r2 108 5 (by omega), k2 108 5 (by omega) (by omega) (by omega), ms_eq]
  have ho3 : ∀ o j, (o < 108 ∨ 154 ≤ o) → m3 o j = mem o j := fun o j q => by rw [r2 o j (by omega), k2 o j (by omega) (by omega) (by omega), ms_ne (by omega)]
  rw [a2, s2, nI_clamp (n := 8 * 0 + 4 * fw d t T (dn d) 0) (by omega), s3, j2, nI_add, ← e, eM, nI_leI (by omega) (by omega)]
  refine ⟨a1, j1, s1, vp_in_nI (by omega) (by omega), fun z => ⟨_, rfl, rfl, Or.inl ⟨z, e15⟩, ho3⟩, fun z => ⟨_, C_walk3 _ hd3 hM hT12 ht hk3 hrr hn hT0, ?_⟩⟩
  rintro m4 ⟨w1, w2⟩
  refine ⟨_, rfl, rfl, Or.inr ⟨by omega, by rw [ms_eq], ⟨fun k v s q1 q2 q3 => by rw [ms_ne (by omega), w2 109 _ (by omega)]; exact hk3.1 k v s q1 q2 q3, fun k q => by rw [ms_ne (by omega), w2 110 k (by omega)]; exact hk3.2.1 k q, by rw [ms_sl (by omega), w2 108 4 (by omega)]; exact hk3.2.2⟩, fun f hf => by rw [ms_ne (by omega)]; exact w1 f hf⟩, fun o j q => by rw [ms_ne (by omega), w2 o j (by omega)]; exact ho3 o j q⟩
