/-! READING of the reference -/
theorem DM.j {mem : TMem} {d : PD} (hd : DM mem d) {a b : Nat} (ha : a < 9) (hb : b < 9) : dJ d a b ≤ 1000000 := by
  rcases (hd.be a b ha hb).2 with ⟨_, q⟩ | ⟨q, _⟩ <;> omega
theorem BE_farM {mem : TMem} {d : PD} (hd : DM mem d) {m a : Nat} (ha : a < 9) : BE d m a ≤ 1000000 := by
  cases m with
  | zero => rw [BE_0]; exact hd.j ha (by omega)
  | succ m => rw [BE_s]; exact mn_far _ _
theorem restAt_ix (mem : TMem) {i a : Nat} (hi : i ≤ 40) (ha : a < 9) : G_X11_restAt (nI i) (wi a) ∧ F_X11_restAt mem (nI i) (wi a) = mem 204 (9 * i + gi a) := by
  have e9 : ∀ y : Nat, (9 : Int32) * nI i + nI y = nI (9 * i + y) := fun y => by rw [show (9 : Int32) = nI 9 from rfl, pk_mul, nI_add]
  unfold G_X11_restAt F_X11_restAt wi gi
  by_cases h : a = 0
  · rw [if_pos h, if_pos h, if_pos rfl, show (8 : Int32) = nI 8 from rfl, e9, nI_clamp (by omega)]
    exact ⟨⟨fun _ => vp_in_nI (by omega) (by omega), fun q => absurd rfl q⟩, rfl⟩
  · rw [if_neg h, if_neg h, if_neg (nI_nm1 (by omega)), e9, nI_clamp (n := 9 * i + (a - 1)) (by omega)]
    exact ⟨⟨fun q => absurd q (nI_nm1 (by omega)), fun _ => vp_in_nI (by omega) (by omega)⟩, rfl⟩
def RE (d : PD) (i a : Nat) : Nat := if i = dn d ∧ a = 0 then 1000000 else BE d (dn d - i) a
theorem RE_s (d : PD) (i w : Nat) : RE d i (w + 1) = BE d (dn d - i) (w + 1) := if_neg (by omega)
theorem RE_00 (d : PD) : RE d 0 0 = LSd d := by
  unfold RE LSd
  by_cases h : dn d = 0
  · rw [if_pos ⟨h.symm, rfl⟩, if_pos h]
  · rw [if_neg (by omega), if_neg h, Nat.sub_zero]
theorem RE_far {mem : TMem} {d : PD} (hd : DM mem d) {i a : Nat} (ha : a < 9) : RE d i a ≤ 1000000 := by
  unfold RE
  split
  · exact Nat.le_refl _
  · exact BE_farM hd ha
def ONT (d : PD) (m : TMem) : Prop := ∀ w i j, w < dW d → i < dn d → i < j → j ≤ dn d → m 201 ((41 * w + i) * 41 + j) = nI (OF d w i (j - i))
theorem AH_sum {d : PD} {w i : Nat} (hl : ∀ v, v < dwy d w → 0 < dln d w v) (hi : i ≤ dn d) : mn (dn d - i) (fun t => OF d w i (t + 1) + BE d (dn d - (i + t + 1)) (w + 1)) = AH d (dn d - i) w := by
  rw [K1 d w i (dn d - i) hl (by omega), ← mn_cap]
  exact mn_congr (fun t _ => by rw [show dn d - (i + t + 1) = dn d - i - (t + 1) by omega]; rfl)
set_option maxRecDepth 100000 in
theorem C_withNext (l : Launch) {mem : TMem} {d : PD} {i a w : Nat} (hd : DM mem d) (hi : i ≤ dn d) (ha : a ≤ dW d) (hw : w < dW d) (hon : ONT d mem) (hrs : ∀ j, i < j → j ≤ dn d → mem 204 (9 * j + w) = nI (BE d (dn d - j) (w + 1))) : TMi l i_X11_withNext 1 22 [.inr 187, .inl (nI i), .inl (wi a), .inl (nI w)] mem (fun x m => x = nI (sa (dJ d a (w + 1)) (AH d (dn d - i) w)) ∧ m = mem) := by
  refine tw_met (by decide) (Nat.le_of_ble_eq_true rfl) (fun κ hl hC hT => ?_)
  have h40 := hd.n40
  have h8 := hd.w8
  have hlw : ∀ v, v < dwy d w → 0 < dln d w v := fun v hv => (hd.ln w v hw hv).1
  obtain ⟨b1, b2⟩ := hd.be a (w + 1) (by omega) (by omega)
  rw [wi_s] at b1 b2
  rcases b2 with ⟨b2, b3⟩ | ⟨b3, b2⟩
  · refine K_X11_withNext_0 hC hT mem _ _ _ ?_
    rw [b2]
    refine ⟨b1, fun q => absurd q (by decide), fun _ => ⟨_, rfl, ?_, rfl⟩⟩
    rw [b3]
    show nI 1000000 = _
    congr 1
    unfold sa
    omega
  · have key : ∀ c t, c + (i + t) = dn d → WT κ 21 [some (.inr 187), some (.inl (nI i)), some (.inl (wi a)), some (.inl (nI w)), some (.inl (nI (mn t (fun t => OF d w i (t + 1) + BE d (dn d - (i + t + 1)) (w + 1))))), some (.inl (nI (i + t + 1)))] [] mem := by
      intro c
      induction c with
      | zero =>
        intro t hc
        have hmf := mn_far t (fun t => OF d w i (t + 1) + BE d (dn d - (i + t + 1)) (w + 1))
        refine K_X11_withNext_21 hC hT mem _ _ _ _ _ ?_
        rw [hd.fr, b2, nI_add, show (1000000 : Int32) = nI 1000000 from rfl, lesser_nI (by omega) (by omega)]
        refine ⟨fun _ => ⟨b1, _, rfl, ?_, rfl⟩, fun q => absurd (nI_lt (by omega) (by omega)) q⟩
        congr 1
        have e := AH_sum hlw hi
        rw [show dn d - i = t by omega] at e ⊢
        rw [e]
        unfold sa
        omega
      | succ c ih =>
        intro t hc
        have nx := ih (t + 1) (by omega)
        have hmf := mn_far t (fun t => OF d w i (t + 1) + BE d (dn d - (i + t + 1)) (w + 1))
        have ho := OF_far d w i (t + 1)
        have hb : BE d (dn d - (i + t + 1)) (w + 1) ≤ 1000000 := BE_farM hd (by omega)
        obtain ⟨g1, g2⟩ := restAt_ix mem (i := i + t + 1) (a := w + 1) (by omega) (by omega)
        rw [wi_s] at g1 g2
        have eg : gi (w + 1) = w := rfl
        refine K_X11_withNext_21 hC hT mem _ _ _ _ _ ?_
        rw [hd.fr, ixI, nI_clamp (n := (41 * w + i) * 41 + (i + t + 1)) (by omega), g2, eg, hrs (i + t + 1) (by omega) (by omega), hon w i (i + t + 1) hw (by omega) (by omega) (by omega), show i + t + 1 - i = t + 1 by omega, nI_add, lesser_nI (by omega) (by omega), nI_1 (i + t + 1)]
        exact ⟨fun q => absurd q (nI_nlt (by omega) (by omega)), fun _ => ⟨vp_in_nI (by omega) (by omega), g1, nx⟩⟩
    refine K_X11_withNext_0 hC hT mem _ _ _ ?_
    rw [b2, nI_1]
    exact ⟨b1, fun _ => key (dn d - i) 0 (by omega), fun q => absurd (nI_pos' (by omega)) q⟩
def LRS (d : PD) (mem : TMem) (i0 a0 : Nat) (m : TMem) : Prop := ONT d m ∧ (∀ i a, i ≤ dn d → a ≤ dW d → (i0 < i ∨ (i = i0 ∧ a < a0)) → m 204 (9 * i + gi a) = nI (RE d i a)) ∧ ∀ o j, o < 201 → m o j = mem o j
theorem LRS.dm {d : PD} {mem : TMem} {i0 a0 : Nat} {m : TMem} (h : LRS d mem i0 a0 m) (hd : DM mem d) : DM m d :=
  hd.of (h.2.2 187 0 (by omega)) (h.2.2 187 3 (by omega)) (h.2.2 187 4 (by omega)) (fun o h1 h2 => funext fun j => h.2.2 o j (by omega))
def base (d : PD) (i a : Nat) : Nat := if i = dn d ∧ ¬ a = 0 then dJ d a 0 else 1000000
theorem RE_is {mem : TMem} {d : PD} (hd : DM mem d) {i a : Nat} (hi : i ≤ dn d) (ha : a < 9) : min (base d i a) (mn (dW d) (fun x => sa (dJ d a (x + 1)) (AH d (dn d - i) x))) = RE d i a := by
  unfold base RE
  by_cases h : i = dn d
  · subst h
    have e : mn (dW d) (fun x => sa (dJ d a (x + 1)) (AH d (dn d - dn d) x)) = 1000000 := mn_const_far _ (fun x _ => by
      have : AH d (dn d - dn d) x = 1000000 := by
        rw [Nat.sub_self]
        exact mn_const_far _ (fun _ _ => Nat.le_refl _)
      rw [this]
      unfold sa
      omega)
    rw [e]
    have hj := hd.j ha (show 0 < 9 by omega)
    by_cases h2 : a = 0
    · rw [if_neg (by omega), if_pos ⟨rfl, h2⟩]
      omega
    · rw [if_pos ⟨rfl, h2⟩, if_neg (by omega), Nat.sub_self, BE_0]
      omega
  · rw [if_neg (by omega), if_neg (by omega)]
    obtain ⟨m, hm⟩ : ∃ m, dn d - i = m + 1 := ⟨dn d - i - 1, by omega⟩
    rw [hm, BE_s, ← mn_cap (dW d) (fun x => dJ d a (x + 1) + AH d (m + 1) x)]
    have := mn_far (dW d) (fun x => sa (dJ d a (x + 1)) (AH d (m + 1) x))
    show min 1000000 (mn (dW d) (fun x => sa (dJ d a (x + 1)) (AH d (m + 1) x))) = mn (dW d) (fun x => sa (dJ d a (x + 1)) (AH d (m + 1) x))
    omega
theorem gi_ne {i a i2 a2 : Nat} (h1 : a < 9) (h2 : a2 < 9) (h : ¬ (i = i2 ∧ a = a2)) : ¬ 9 * i + gi a = 9 * i2 + gi a2 := by
  unfold gi
  split <;> split <;> omega
set_option maxRecDepth 100000 in
theorem C_layRest (l : Launch) {mem : TMem} {d : PD} (hd : DM mem d) : TMv l i_X11_layRest 3 72 [.inr 187] mem (fun m => ONT d m ∧ (∀ i a, i ≤ dn d → a ≤ dW d → m 204 (9 * i + gi a) = nI (RE d i a)) ∧ ∀ o j, o < 201 → m o j = mem o j) := by
  refine tw_met (by decide) (Nat.le_of_ble_eq_true rfl) (fun κ hl hC hT => ?_)
  have h40 := hd.n40
  have h8 := hd.w8
  have key60 : ∀ i a m, i ≤ dn d → a ≤ dW d → LRS d mem i a m → (∀ m2, LRS d mem i (a + 1) m2 → WT κ 15 [some (.inr 187), some (.inl (nI i)), some (.inl (wi (a + 1))), none, none] [] m2) → ∀ c w, c + w = dW d → WT κ 60 [some (.inr 187), some (.inl (nI i)), some (.inl (wi a)), some (.inl (nI (min (base d i a) (mn w (fun x => sa (dJ d a (x + 1)) (AH d (dn d - i) x)))))), some (.inl (nI w))] [] m := by
    intro i a m hi ha hm next c
    have hdm := hm.dm hd
    induction c with
    | zero =>
      intro w hc
      have : w = dW d := by omega
      subst this
      have nx : WT κ 15 [some (.inr 187), some (.inl (nI i)), some (.inl (nI a)), none, none] [] (mset m 204 (9 * i + gi a) (nI (RE d i a))) := next _ ⟨fun w i2 j q1 q2 q3 q4 => by rw [ms_ne (by omega)]; exact hm.1 w i2 j q1 q2 q3 q4, fun i2 a2 q1 q2 q3 => by
        by_cases e : i2 = i ∧ a2 = a
        · obtain ⟨rfl, rfl⟩ := e
          rw [ms_eq]
        · rw [ms_sl (gi_ne (by omega) (by omega) e)]
          exact hm.2.1 i2 a2 q1 q2 (by omega), fun o j q => by rw [ms_ne (by omega)]; exact hm.2.2 o j q⟩
      refine K_X11_layRest_60 hC hT m _ _ _ _ ?_
      rw [hdm.wd, RE_is hd hi (by omega), wi_1]
      refine ⟨fun _ => ?_, fun q => absurd (nI_le (Nat.le_refl _) (by omega)) q⟩
      have e9 : ∀ y : Nat, (9 : Int32) * nI i + nI y = nI (9 * i + y) := fun y => by rw [show (9 : Int32) = nI 9 from rfl, pk_mul, nI_add]
      by_cases h : a = 0
      · subst h
        rw [wi_0, show (8 : Int32) = nI 8 from rfl, e9, nI_clamp (by omega)]
        exact ⟨fun _ => ⟨vp_in_nI (by omega) (by omega), nx⟩, fun q => absurd rfl q⟩
      · obtain ⟨b, rfl⟩ : ∃ b, a = b + 1 := ⟨a - 1, by omega⟩
        rw [wi_s, e9, nI_clamp (n := 9 * i + b) (by omega)]
        exact ⟨fun q => absurd q (nI_nm1 (by omega)), fun _ => ⟨vp_in_nI (by omega) (by omega), nx⟩⟩
    | succ c ih =>
      intro w hc
      have nx := ih (w + 1) (by omega)
      have hmf := mn_far w (fun x => sa (dJ d a (x + 1)) (AH d (dn d - i) x))
      have hsf := sa_far (dJ d a (w + 1)) (AH d (dn d - i) w)
      refine K_X11_layRest_60 hC hT m _ _ _ _ ?_
      rw [hdm.wd]
      refine ⟨fun q => absurd q (nI_ge (by omega) (by omega)), fun _ => ⟨_, C_withNext _ hdm hi ha (by omega) hm.1 (fun j q1 q2 => ?_), ?_⟩⟩
      · have := hm.2.1 j (w + 1) q2 (by omega) (Or.inl q1)
        rw [RE_s] at this
        exact this
      rintro x m2 ⟨rfl, rfl⟩
      rw [lesser_nI (by omega) (by omega), nI_1 w]
      have e : min (min (base d i a) (mn w (fun x => sa (dJ d a (x + 1)) (AH d (dn d - i) x)))) (sa (dJ d a (w + 1)) (AH d (dn d - i) w)) = min (base d i a) (mn (w + 1) (fun x => sa (dJ d a (x + 1)) (AH d (dn d - i) x))) := by
        show _ = min (base d i a) (min (mn w _) (sa (dJ d a (w + 1)) (AH d (dn d - i) w)))
        omega
      rw [e]
      exact nx
  have key15 : ∀ i, i ≤ dn d → (∀ m, LRS d mem i (dW d + 1) m → WT κ 9 [some (.inr 187), some (.inl (nI i + (-1))), none, none, none] [] m) → ∀ c a m, c + a = dW d + 1 → LRS d mem i a m → WT κ 15 [some (.inr 187), some (.inl (nI i)), some (.inl (wi a)), none, none] [] m := by
    intro i hi next c
    induction c with
    | zero =>
      intro a m hc hm
      have : a = dW d + 1 := by omega
      subst this
      refine K_X11_layRest_15 hC hT m _ _ ?_
      rw [(hm.dm hd).wd, wi_s]
      exact ⟨fun _ => next m hm, fun q => absurd (nI_le (Nat.le_refl _) (by omega)) q⟩
    | succ c ih =>
      intro a m hc hm
      have hdm := hm.dm hd
      have go : ∀ z, z = nI (base d i a) → WT κ 60 [some (.inr 187), some (.inl (nI i)), some (.inl (wi a)), some (.inl z), some (.inl 0)] [] m := fun z hz => by
        have := key60 i a m hi (by omega) hm (fun m2 h2 => ih (a + 1) m2 (by omega) h2) (dW d) 0 (by omega)
        rw [show min (base d i a) (mn 0 (fun x => sa (dJ d a (x + 1)) (AH d (dn d - i) x))) = base d i a by
          show min (base d i a) 1000000 = _
          have : base d i a ≤ 1000000 := by
            unfold base
            split
            · exact hd.j (by omega) (by omega)
            · omega
          omega, ← hz] at this
        exact this
      have hW : ¬ nI (dW d) ≤ wi a := by
        unfold wi
        by_cases h : a = 0
        · rw [if_pos h]
          intro q
          rw [Int32.le_iff_toInt_le, nI_toInt (by omega)] at q
          have : (-1 : Int32).toInt = -1 := by decide
          omega
        · rw [if_neg h]
          exact nI_ge (by omega) (by omega)
      refine K_X11_layRest_15 hC hT m _ _ ?_
      rw [hdm.wd, hdm.fr, nI_eq (by omega) (by omega)]
      refine ⟨fun q => absurd q hW, fun _ => ⟨fun q => ⟨fun q2 => go _ ?_, fun q2 => ?_⟩, fun q => go _ ?_⟩⟩
      · have : a = 0 := by
          apply Decidable.byContradiction
          intro z
          obtain ⟨b, rfl⟩ : ∃ b, a = b + 1 := ⟨a - 1, by omega⟩
          exact nI_nm1 (a := b) (by omega) q2
        unfold base
        rw [if_neg (by omega)]
        rfl
      · have ha0 : ¬ a = 0 := fun z => q2 (by rw [z]; rfl)
        obtain ⟨b1, b2⟩ := hdm.be a 0 (by omega) (by omega)
        rw [wi_0] at b1 b2
        have eb : base d i a = dJ d a 0 := if_pos ⟨q, ha0⟩
        refine ⟨b1, fun q3 => go _ ?_, fun q3 => go _ ?_⟩
        · rcases b2 with ⟨b2, b3⟩ | ⟨b3, b2⟩
          · rw [eb, b3]; rfl
          · rw [b2] at q3
            exact absurd q3 (nI_pos (by omega))
        · rcases b2 with ⟨b2, b3⟩ | ⟨b3, b2⟩
          · rw [b2] at q3
            exact absurd (by decide) q3
          · rw [eb, b2]
      · unfold base
        rw [if_neg (by omega)]
        rfl
  have key9 : ∀ c m, c ≤ dn d + 1 → (∀ i, c = i + 1 → LRS d mem i 0 m) → (c = 0 → LRS d mem 0 (dW d + 1) m) → WT κ 9 [some (.inr 187), some (.inl (nI c + (-1))), none, none, none] [] m := by
    intro c
    induction c with
    | zero =>
      intro m _ _ hm
      have hm := hm rfl
      exact K_X11_layRest_9 hC hT m _ ⟨fun _ => ⟨rfl, hm.1, fun i a q1 q2 => hm.2.1 i a q1 q2 (by omega), hm.2.2⟩, fun q => absurd (by decide) q⟩
    | succ c ih =>
      intro m hc hm _
      have hm := hm c rfl
      rw [pk_m1]
      refine K_X11_layRest_9 hC hT m _ ⟨fun q => absurd q (nI_pos (by omega)), fun _ => ?_⟩
      refine key15 c (by omega) (fun m2 h2 => ih m2 (by omega) (fun i hi => ?_) (fun z => by subst z; exact h2)) (dW d + 1) 0 m (by omega) hm
      exact ⟨h2.1, fun i2 a q1 q2 q3 => h2.2.1 i2 a q1 q2 (by omega), h2.2.2⟩
  refine K_X11_layRest_0 hC hT mem ⟨_, C_layAll _ hd, ?_⟩
  rintro m ⟨r1, r2⟩
  rw [r2 187 0 (by omega) (by omega) (by omega), hd.fr, ← pk_m1]
  refine key9 (dn d + 1) m (by omega) (fun i hi => ⟨r1, fun i2 a q1 q2 q3 => by omega, fun o j q => r2 o j (by omega) (by omega) (by omega)⟩) (fun z => by omega)
def LRT (d : PD) (m : TMem) : Prop := ONT d m ∧ ∀ i a, i ≤ dn d → a ≤ dW d → m 204 (9 * i + gi a) = nI (RE d i a)
set_option maxRecDepth 100000 in
theorem C_leastNow (l : Launch) {mem : TMem} {d : PD} (hd : DM mem d) : TMi l i_X11_leastNow 4 96 [.inr 187] mem (fun x m => x = nI (LSd d) ∧ LRT d m ∧ ∀ o j, o < 201 → m o j = mem o j) := by
  refine tw_met (by decide) (Nat.le_of_ble_eq_true rfl) (fun κ hl hC hT => ?_)
  refine K_X11_leastNow_0 hC hT mem ⟨_, C_layRest _ hd, ?_⟩
  rintro m ⟨r1, r2, r3⟩
  obtain ⟨g1, g2⟩ := restAt_ix m (i := 0) (a := 0) (by omega) (by omega)
  have e : F_X11_restAt m 0 (-1) = nI (LSd d) := by
    rw [← RE_00, ← r2 0 0 (by omega) (by omega)]
    exact g2
  exact ⟨g1, _, rfl, e, ⟨r1, r2⟩, r3⟩
