/-! READING of the class: the row -/
def hitX (d : PD) (L : Nat) (P : Nat → Nat) (a x : Nat) : Prop := ∃ f, f < dn d ∧ P f + dJ d a (x + 1) + AH d (dn d - f) x = L
set_option maxRecDepth 100000 in
theorem C_first (l : Launch) {mem : TMem} {d : PD} {P : Nat → Nat} {a L w : Nat} (hd : DX mem d) (ha : a ≤ dW d) (hP : ∀ f, f ≤ dn d → mem 99 f = nI (P f) ∧ P f ≤ 1000000) (hA : ∀ f x, f < dn d → x < dW d → mem (42 + f) x = nI (AH d (dn d - f) x)) (hL : mem 40 5 = nI L) (hL1 : L ≤ 1000000) (hw : w < dW d) (hh : hitX d L P a w) (hno : ∀ x, x < w → ¬ hitX d L P a x) : TMi l i_X6_firstThatLeadsOn 2 45 [.inr 40, .inr 10, .inl (wi a), .inl (nI (dn d))] mem (fun x m => x = nI w ∧ m = mem) := by
  refine tw_met (by decide) (Nat.le_of_ble_eq_true rfl) (fun κ hl hC hT => ?_)
  have h40 := hd.n40
  have h8 := hd.w8
  have inner : ∀ x, x < dW d → (hitX d L P a x → x = w) → (¬ hitX d L P a x → WT κ 3 [some (.inr 40), some (.inr 10), some (.inl (wi a)), some (.inl (nI (dn d))), some (.inl (nI (x + 1))), none] [] mem) → ∀ c f, c + f = dn d → (∀ g, g < f → ¬ P g + dJ d a (x + 1) + AH d (dn d - g) x = L) → WT κ 15 [some (.inr 40), some (.inr 10), some (.inl (wi a)), some (.inl (nI (dn d))), some (.inl (nI x)), some (.inl (nI f))] [] mem := by
    intro x hx hyes hnx c
    induction c with
    | zero =>
      intro f hc hn
      refine K_X6_firstThatLeadsOn_15 hC hT mem _ _ _ _ ⟨fun _ => ?_, fun q => absurd (nI_le (by omega) (by omega)) q⟩
      rw [nI_1]
      exact hnx (fun ⟨g, h1, h2⟩ => hn g (by omega) h2)
    | succ c ih =>
      intro f hc hn
      obtain ⟨j1, j2, j3⟩ := hd.jo a (x + 1) (by omega) (by omega)
      rw [wi_s] at j1 j2
      have hAf := AH_far d (dn d - f) x
      have hPf := hP f (by omega)
      refine K_X6_firstThatLeadsOn_15 hC hT mem _ _ _ _ ⟨fun q => absurd q (nI_ge (by omega) (by omega)), fun _ => ?_⟩
      rw [nI_clamp (n := f) (by omega), nI_clamp (n := x) (by omega), j2, hA f x (by omega) hx, hPf.1, hL, nI_add, nI_add, nI_eq (by omega) (by omega), nI_1 f]
      exact ⟨vp_in_nI (by omega) (by omega), j1, vp_in_nI (by omega) (by omega), vp_in_nI (by omega) (by omega), fun q => ⟨_, rfl, by rw [hyes ⟨f, by omega, q⟩], rfl⟩, fun q => ih (f + 1) (by omega) (fun g hg => by
        by_cases e : g = f
        · subst e; exact q
        · exact hn g (by omega))⟩
  have outer : ∀ c x, c + x = w → WT κ 3 [some (.inr 40), some (.inr 10), some (.inl (wi a)), some (.inl (nI (dn d))), some (.inl (nI x)), none] [] mem := by
    intro c
    induction c with
    | zero =>
      intro x hc
      have : x = w := by omega
      subst this
      refine K_X6_firstThatLeadsOn_3 hC hT mem _ _ _ ?_
      rw [hd.wd]
      exact ⟨fun q => absurd q (nI_ge (by omega) (by omega)), fun _ => inner x hw (fun _ => rfl) (fun q => absurd hh q) (dn d) 0 (by omega) (fun g hg => by omega)⟩
    | succ c ih =>
      intro x hc
      refine K_X6_firstThatLeadsOn_3 hC hT mem _ _ _ ?_
      rw [hd.wd]
      exact ⟨fun q => absurd q (nI_ge (by omega) (by omega)), fun _ => inner x (by omega) (fun q => absurd q (hno x (by omega))) (fun _ => ih (x + 1) (by omega)) (dn d) 0 (by omega) (fun g hg => by omega)⟩
  exact K_X6_firstThatLeadsOn_0 hC hT mem _ _ (outer w 0 (by omega))
theorem EN_row {d : PD} {P : Nat → Nat} {a w j : Nat} (hl : ∀ v, v < dwy d w → 0 < dln d w v) (hj : j ≤ dn d) : EN d w (fun f => sa (P f) (dJ d a (w + 1))) 0 (dn d) (dwy d w) j = NXf d P a w j := by
  by_cases e : j = 0
  · subst e
    unfold EN
    rw [if_neg (by omega)]
    rfl
  · rw [EN_is (fun f => sa_far _ _) hl (by omega) hj, Nat.sub_zero]
    unfold NXf
    exact mn_congr (fun u _ => by rw [Nat.zero_add])
def APP (d : PD) (P : Nat → Nat) (a w r : Nat) (mem m : TMem) : Prop := (∀ f, f ≤ dn d → m 99 f = nI (NXf d P a w f)) ∧ m 104 1 = nI (r + 1) ∧ m 105 r = nI w ∧ (∀ j, ¬ j = r → m 105 j = mem 105 j) ∧ ∀ o j, ¬ (99 ≤ o ∧ o < 106) → m o j = mem o j
set_option maxRecDepth 100000 in
theorem C_append (l : Launch) {mem : TMem} {d : PD} {P : Nat → Nat} {a w r : Nat} (hd : DX mem d) (ha : a ≤ dW d) (hw : w < dW d) (hP : ∀ f, f ≤ dn d → mem 99 f = nI (P f) ∧ P f ≤ 1000000) (hr : mem 104 1 = nI r) (hr4 : r < 40) : TMv l i_X6_append 3 79 [.inr 40, .inr 1, .inr 10, .inl (wi a), .inl (nI w)] mem (APP d P a w r mem) := by
  refine tw_met (by decide) (Nat.le_of_ble_eq_true rfl) (fun κ hl hC hT => ?_)
  have h40 := hd.n40
  have h8 := hd.w8
  have copy : ∀ c f m, c + f = dn d + 1 → (∀ g, g < f → m 99 g = nI (NXf d P a w g)) → (∀ g, g ≤ dn d → m 102 g = nI (NXf d P a w g)) → (∀ o j, ¬ o = 99 → ¬ o = 101 → ¬ o = 102 → ¬ o = 103 → m o j = mem o j) → WT κ 63 [some (.inr 40), none, none, none, some (.inl (nI w)), some (.inl (nI (dn d))), some (.inl (nI f))] [] m := by
    intro c
    induction c with
    | zero =>
      intro f m hc h1 h2 h3
      have e104 : m 104 1 = nI r := by rw [h3 104 1 (by omega) (by omega) (by omega) (by omega)]; exact hr
      have n40 : ¬ (40 : Int32) ≤ nI r := nI_ge (b := 40) hr4 (by omega)
      refine K_X6_append_63 hC hT m _ _ _ ⟨fun _ => ?_, fun q => absurd (nI_lt (by omega) (by omega)) q⟩
      unfold G_X7_add_104 M_X7_add_104
      rw [e104, if_neg n40, nI_clamp (n := r) (by omega), nI_1 r]
      refine ⟨fun _ => vp_in_nI (by omega) (by omega), rfl, fun f hf => ?_, by rw [ms_eq], by rw [ms_ne (by omega), ms_eq], fun j hj => ?_, fun o j ho => ?_⟩
      · rw [ms_ne (by omega), ms_ne (by omega)]
        exact h1 f (by omega)
      · rw [ms_ne (by omega), ms_sl hj]
        exact h3 105 j (by omega) (by omega) (by omega) (by omega)
      · rw [ms_ne (by omega), ms_ne (by omega)]
        exact h3 o j (by omega) (by omega) (by omega) (by omega)
    | succ c ih =>
      intro f m hc h1 h2 h3
      refine K_X6_append_63 hC hT m _ _ _ ⟨fun q => absurd q (nI_nlt (by omega) (by omega)), fun _ => ⟨vp_in_nI (by omega) (by omega), vp_in_nI (by omega) (by omega), ?_⟩⟩
      rw [nI_clamp (n := f) (by omega), nI_1 f, h2 f (by omega)]
      refine ih (f + 1) _ (by omega) (fun g hg => ?_) (fun g hg => by rw [ms_ne (by omega)]; exact h2 g hg) (fun o j q1 q2 q3 q4 => by rw [ms_ne q1]; exact h3 o j q1 q2 q3 q4)
      by_cases e : g = f
      · subst e; rw [ms_eq]
      · rw [ms_sl e]; exact h1 g (by omega)
  have start : ∀ c f m, c + f = dn d + 1 → (∀ g, g < f → m 101 g = nI (sa (P g) (dJ d a (w + 1)))) → (∀ o j, ¬ o = 101 → m o j = mem o j) → WT κ 9 [some (.inr 40), some (.inr 1), some (.inr 10), some (.inl (wi a)), some (.inl (nI w)), some (.inl (nI (dn d))), some (.inl (nI f))] [] m := by
    intro c
    induction c with
    | zero =>
      intro f m hc h1 h2
      have hdm : DX m d := hd.of (fun o ho => funext fun j => h2 o j (by omega))
      refine K_X6_append_9 hC hT m _ _ _ _ ⟨fun _ => ⟨_, C_run_100 _ (fr := 0) (to := dn d) (S := fun f => sa (P f) (dJ d a (w + 1))) hdm hw (by omega) (Nat.le_refl _) (fun f _ q => h1 f (by omega)) (fun f => sa_far _ _), ?_⟩, fun q => absurd (nI_lt (by omega) (by omega)) q⟩
      rintro m2 ⟨r1, r2⟩
      refine copy (dn d + 1) 0 m2 (by omega) (fun g hg => by omega) (fun g hg => ?_) (fun o j q1 q2 q3 q4 => by rw [r2 o j q3 q4]; exact h2 o j q2)
      rw [r1 g (by omega), EN_row (fun v hv => (hd.ln w v hw hv).1) hg]
    | succ c ih =>
      intro f m hc h1 h2
      have hdm : DX m d := hd.of (fun o ho => funext fun j => h2 o j (by omega))
      obtain ⟨j1, j2, j3⟩ := hdm.jo a (w + 1) (by omega) (by omega)
      rw [wi_s] at j1 j2
      obtain ⟨p1, p2⟩ := hP f (by omega)
      refine K_X6_append_9 hC hT m _ _ _ _ ⟨fun q => absurd q (nI_nlt (by omega) (by omega)), fun _ => ⟨vp_in_nI (by omega) (by omega), j1, vp_in_nI (by omega) (by omega), ?_⟩⟩
      rw [nI_clamp (n := f) (by omega), nI_1 f, j2, h2 99 f (by omega), p1, nI_add, show (1000000 : Int32) = nI 1000000 from rfl, imin_nI (by omega) (by omega)]
      refine ih (f + 1) _ (by omega) (fun g hg => ?_) (fun o j q => by rw [ms_ne q]; exact h2 o j q)
      by_cases e : g = f
      · subst e; rw [ms_eq]; rfl
      · rw [ms_sl e]; exact h1 g (by omega)
  refine K_X6_append_0 hC hT mem _ _ ?_
  rw [hd.fr]
  exact start (dn d + 1) 0 mem (by omega) (fun g hg => by omega) (fun _ _ _ => rfl)
theorem getD_l {pre : List Nat} {w i : Nat} (h : i < pre.length) : (pre ++ [w]).getD i 0 = pre.getD i 0 := by
  rw [List.getD_eq_getElem?_getD, List.getD_eq_getElem?_getD, List.getElem?_append_left h]
theorem getD_r {pre : List Nat} {w : Nat} : (pre ++ [w]).getD pre.length 0 = w := by
  rw [List.getD_eq_getElem?_getD, List.getElem?_append_right (Nat.le_refl _), Nat.sub_self]
  rfl
set_option maxRecDepth 100000 in
theorem C_findRow6 (l : Launch) {mem : TMem} {d : PD} (hd : DX mem d) (hL : LSd d < 1000000) (h5 : mem 40 5 = nI (LSd d)) (hA : ∀ f x, f < dn d → x < dW d → mem (42 + f) x = nI (AH d (dn d - f) x)) (h104 : mem 104 1 = 0) : TMv l i_X6_findRow 4 105 [.inr 40, .inr 1, .inr 10] mem (fun m => m 104 1 = nI (ROW d).length ∧ (∀ i, i < (ROW d).length → m 105 i = nI ((ROW d).getD i 0)) ∧ ∀ o j, ¬ (99 ≤ o ∧ o < 106) → m o j = mem o j) := by
  refine tw_met (by decide) (Nat.le_of_ble_eq_true rfl) (fun κ hl hC hT => ?_)
  have h40 := hd.n40
  have h8 := hd.w8
  have hlw : ∀ w v, w < dW d → v < dwy d w → 0 < dln d w v := fun w v h1 h2 => (hd.ln w v h1 h2).1
  have hn : 0 < dn d := by
    rcases Nat.eq_zero_or_pos (dn d) with q | q
    · unfold LSd at hL; rw [if_pos q] at hL; omega
    · exact q
  have eL : LSd d = BE d (dn d) 0 := if_neg (by omega)
  have key : ∀ f r P a pre m, r + f = dn d → RI d (LSd d) r P a → pre.length = r → pre ++ RWs d (LSd d) f P a = ROW d → (∀ g, g ≤ dn d → m 99 g = nI (P g)) → m 104 1 = nI r → (∀ i, i < r → m 105 i = nI (pre.getD i 0)) → (∀ o j, ¬ (99 ≤ o ∧ o < 106) → m o j = mem o j) → WT κ 27 [some (.inr 40), some (.inr 1), some (.inr 10), some (.inl (nI (dn d))), some (.inl (wi a)), some (.inl (nI r)), none] [] m := by
    intro f
    induction f with
    | zero =>
      intro r P a pre m hr hI hp hrow h9 h4 h1 ho
      have e : pre = ROW d := by rw [← hrow]; exact (List.append_nil pre).symm
      refine K_X6_findRow_27 hC hT m _ _ _ ⟨fun _ => ⟨rfl, ?_, fun i hi => ?_, ho⟩, fun q => absurd (nI_le (by omega) (by omega)) q⟩
      · rw [← e, hp]; exact h4
      · rw [← e] at hi ⊢; exact h1 i (by omega)
    | succ f ih =>
      intro r P a pre m hr hI hp hrow h9 h4 h1 ho
      have hdm : DX m d := hd.of (fun o q => funext fun j => ho o j (by omega))
      have haw := hI.2.2.2.2.1
      obtain ⟨j1, j2, j3⟩ := hdm.jo a 0 (by omega) (by omega)
      rw [wi_0] at j1 j2
      have hPn := hI.2.2.1 (dn d)
      refine K_X6_findRow_27 hC hT m _ _ _ ⟨fun q => absurd q (nI_ge (by omega) (by omega)), fun _ => ?_⟩
      rw [nI_clamp (n := dn d) (by omega), j2, h9 (dn d) (Nat.le_refl _), ho 40 5 (by omega), h5, nI_add, nI_eq (by omega) (by omega), nI_1 r]
      refine ⟨vp_in_nI (by omega) (by omega), j1, fun q => ?_, fun q => ?_⟩
      · have ht : a ≠ 0 ∧ P (dn d) + dJ d a 0 = LSd d := ⟨fun z => by have := hI.2.2.2.1 z; omega, q⟩
        have e : pre = ROW d := by rw [← hrow, RWs_end ht]; exact (List.append_nil pre).symm
        refine ⟨rfl, ?_, fun i hi => ?_, ho⟩
        · rw [← e, hp]; exact h4
        · rw [← e] at hi ⊢; exact h1 i (by omega)
      · obtain ⟨w, g, hg, hw, hm1, hm2, hm3, hm4⟩ := RI_step (f := f + 1) hlw hI hL hr (fun z => q z.2)
        have hfg : g = f := by omega
        subst hfg
        refine ⟨_, C_first _ (P := P) (L := LSd d) (w := w) hdm haw (fun g hg => ⟨h9 g hg, hI.2.2.1 g⟩) (fun g x q1 q2 => by rw [ho _ _ (by omega)]; exact hA g x q1 q2) (by rw [ho 40 5 (by omega)]; exact h5) (by omega) hw ((RI_hitC hI hL hw).mpr hm1) (fun x hx z => hm2 x hx ((RI_hitC hI hL (by omega)).mp z)), ?_⟩
        rintro x m2 ⟨rfl, rfl⟩
        refine ⟨fun q => absurd q (nI_nm1 (by omega)), fun _ => ⟨_, C_append _ (P := P) (r := r) hdm haw hw (fun g hg => ⟨h9 g hg, hI.2.2.1 g⟩) h4 (by omega), ?_⟩⟩
        rintro m3 ⟨r1, r2, r3, r4, r5⟩
        refine ih (r + 1) (NXf d P a w) (w + 1) (pre ++ [w]) m3 (by omega) hm4 (by rw [List.length_append, hp]; rfl) (by rw [← hrow, hm3, List.append_assoc]; rfl) r1 r2 (fun i hi => ?_) (fun o j q => by rw [r5 o j q]; exact ho o j q)
        by_cases e : i = r
        · subst e
          subst hp
          rw [r3, getD_r]
        · rw [r4 i e, getD_l (by omega)]
          exact h1 i (by omega)
  refine K_X6_findRow_0 hC hT mem ⟨_, C_fillT _ (n := 41) (by decide +kernel) (by omega), ?_⟩
  rintro m3 rfl
  rw [hd.fr]
  refine key (dn d) 0 P0 0 [] _ (by omega) (by rw [eL]; exact RI_start hn (by rw [← eL]; exact hL)) rfl rfl (fun g hg => ?_) ?_ (fun i hi => by omega) (fun o j q => ?_)
  · by_cases e : g = 0
    · subst e; rw [ms_eq]; rfl
    · rw [ms_sl e, mfill_at (by omega)]
      unfold P0
      rw [if_neg e]
      rfl
  · rw [ms_ne (by omega), mfill_o (by omega)]; exact h104
  · rw [ms_ne (by omega), mfill_o (by omega)]
def lsB (d : PD) : Int32 := if LSd d < 1000000 then 1 else 0
theorem LSd_far {mem : TMem} {d : PD} (hd : DX mem d) : LSd d ≤ 1000000 := by
  unfold LSd
  split
  · exact Nat.le_refl _
  · exact BE_far hd (by omega)
set_option maxRecDepth 100000 in
theorem C_find6 (l : Launch) {k : Nat} {mem : TMem} (h : INV k mem) : TMi l i_X6_find 5 131 [.inr 40, .inr 1, .inr 10] mem (fun x m => x = lsB (dat mem) ∧ m 40 6 = 1 ∧ R_ca m ∧ ∀ o j, ¬ (40 ≤ o ∧ o < 106) → m o j = mem o j) := by
  refine tw_met (by decide) (Nat.le_of_ble_eq_true rfl) (fun κ hl hC hT => ?_)
  have hd := INV_DX h
  have hca : R_ca mem := by
    obtain ⟨n, W, T, a1, a2, a3, a4, a5, a6, a7, a8, a9, b1, b2, b3⟩ := h
    exact b3
  have eM : (1000000 : Int32) = nI 1000000 := rfl
  have hLf := LSd_far hd
  generalize hdat : dat mem = d at *
  have h40 := hd.n40
  have h8 := hd.w8
  have hlw : ∀ w v, w < dW d → v < dwy d w → 0 < dln d w v := fun w v h1 h2 => (hd.ln w v h1 h2).1
  have hdt : ∀ m : TMem, (∀ o j, ¬ (40 ≤ o ∧ o < 106) → m o j = mem o j) → dat m = d := fun m ho => by
    rw [← hdat]
    exact dat_sc (fun o q => funext fun j => ho o j (by omega))
  refine K_X6_find_0 hC hT mem ⟨fun _ => ⟨_, C_lookAhead6 _ hd, ?_⟩, fun q => ?_⟩
  · rintro m1 ⟨r1, r2⟩
    have hdm : DX m1 d := hd.of (fun o q => funext fun j => r2 o j (by omega))
    refine ⟨fun q => ?_, fun q => ?_⟩
    · have hn0 : dn d = 0 := (le0 (by omega)).mp (by rw [← hdm.fr]; exact q)
      have eL : LSd d = 1000000 := if_pos hn0
      have ho : ∀ o j, ¬ (40 ≤ o ∧ o < 106) → (mset (mset (mset m1 104 1 0) 40 5 1000000) 40 6 1) o j = mem o j := fun o j q => by
        rw [ms_ne (by omega), ms_ne (by omega), ms_ne (by omega)]
        exact r2 o j (by omega)
      refine ⟨_, rfl, by unfold lsB; rw [if_neg (by omega)], by rw [ms_eq], Or.inr ?_, ho⟩
      rw [hdt _ ho]
      refine ⟨by rw [ms_eq], by rw [ms_sl (by omega), ms_eq, eL]; rfl, fun z => by omega⟩
    · have hn : 0 < dn d := by
        rcases Nat.eq_zero_or_pos (dn d) with z | z
        · exact absurd ((le0 (by omega)).mpr z) (by rw [← hdm.fr]; exact q)
        · exact z
      have eL : LSd d = BE d (dn d) 0 := if_neg (by omega)
      have hdm2 : DX (mset m1 104 1 0) d := hdm.of (fun o q => funext fun j => by rw [ms_ne (by omega)])
      have cb := C_cheapestBehind κ.1.2.1 (a := 0) (f := 0) (p3 := -1) (g := fun x => AH d (dn d) x) hdm2 (by omega) (by omega) (fun x hx => ⟨by rw [ms_ne (by omega), r1 0 x hn hx, Nat.sub_zero], AH_far _ _ _⟩)
      obtain ⟨n1, hn1⟩ : ∃ n1, dn d = n1 + 1 := ⟨dn d - 1, by omega⟩
      rw [wi_0, mn_m1 (by omega), hn1, ← BE_s, ← hn1, ← eL] at cb
      refine ⟨_, cb, ?_⟩
      rintro x m2 ⟨rfl, rfl⟩
      have e1 : (1000000 ≤ nI (LSd d)) ↔ ¬ LSd d < 1000000 := by
        rw [eM, nI_leI (by omega) (by omega)]
        omega
      refine ⟨fun q => ?_, fun q => ?_⟩
      · have hLn := e1.mp q
        have ho : ∀ o j, ¬ (40 ≤ o ∧ o < 106) → (mset (mset (mset m1 104 1 0) 40 5 (nI (LSd d))) 40 6 1) o j = mem o j := fun o j q => by
          rw [ms_ne (by omega), ms_ne (by omega), ms_ne (by omega)]
          exact r2 o j (by omega)
        refine ⟨_, rfl, by unfold lsB; rw [if_neg hLn], by rw [ms_eq], Or.inr ?_, ho⟩
        rw [hdt _ ho]
        exact ⟨by rw [ms_eq], by rw [ms_sl (by omega), ms_eq], fun z => absurd z hLn⟩
      · have hLn : LSd d < 1000000 := Decidable.not_not.mp (fun z => q (e1.mpr z))
        have hdm3 : DX (mset (mset m1 104 1 0) 40 5 (nI (LSd d))) d := hdm2.of (fun o q => funext fun j => by rw [ms_ne (by omega)])
        refine ⟨_, C_findRow6 _ hdm3 hLn (by rw [ms_eq]) (fun f x q1 q2 => by rw [ms_ne (by omega), ms_ne (by omega)]; exact r1 f x q1 q2) (by rw [ms_ne (by omega), ms_eq]), ?_⟩
        rintro m4 ⟨s1, s2, s3⟩
        have e5 : m4 40 5 = nI (LSd d) := by rw [s3 40 5 (by omega), ms_eq]
        rw [e5]
        refine ⟨fun q => absurd hLn (e1.mp q), fun _ => ?_⟩
        have ho : ∀ o j, ¬ (40 ≤ o ∧ o < 106) → (mset m4 40 6 1) o j = mem o j := fun o j q => by
          rw [ms_ne (by omega), s3 o j (by omega), ms_ne (by omega), ms_ne (by omega)]
          exact r2 o j (by omega)
        refine ⟨_, rfl, by unfold lsB; rw [if_pos hLn], by rw [ms_eq], Or.inr ?_, ho⟩
        rw [hdt _ ho]
        obtain ⟨z1, z2, z3⟩ := ROW_ok hlw hLn
        refine ⟨by rw [ms_eq], by rw [ms_sl (by omega)]; exact e5, fun _ => ⟨by rw [ms_ne (by omega)]; exact s1, z1, by omega, fun i hi => ⟨z3 i hi, by rw [ms_ne (by omega)]; exact s2 i hi⟩, fun w hw => ?_⟩⟩
        rw [ms_ne (by omega), s3 42 w (by omega), ms_ne (by omega), ms_ne (by omega)]
        have := r1 0 w hn hw
        rw [Nat.sub_zero] at this
        exact this
  · rcases id hca with z | ⟨z1, z2, z3⟩
    · exact absurd z q
    · rw [hdat] at z2 z3
      rw [z2, eM, nI_leI (by omega) (by omega)]
      exact ⟨fun q => ⟨_, rfl, by unfold lsB; rw [if_neg (by omega)], z1, hca, fun _ _ _ => rfl⟩, fun q => ⟨_, rfl, by unfold lsB; rw [if_pos (by omega)], z1, hca, fun _ _ _ => rfl⟩⟩
