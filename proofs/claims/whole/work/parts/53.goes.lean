/-! READING of the reference: the row -/
theorem NX_sum {d : PD} {P : Nat → Nat} {a w j : Nat} : mn j (fun i => P i + OF d w i (j - i) + dJ d a (w + 1)) = NXf d P a w j := by
  unfold NXf
  rw [← mn_cap]
  exact mn_congr (fun i _ => by
    try dsimp only
    unfold sa
    omega)
theorem NX_bar {d : PD} {P : Nat → Nat} {a w j : Nat} (h : dJ d a (w + 1) = 1000000) : NXf d P a w j = 1000000 := by
  unfold NXf
  refine mn_const_far _ (fun i _ => ?_)
  try dsimp only
  rw [h]
  unfold sa
  omega
theorem sa_farR (x : Nat) : 1000000 ≤ sa x 1000000 := by
  unfold sa
  have h : 1000000 ≤ x + 1000000 := Nat.le_add_left _ _
  generalize x + 1000000 = y at *
  omega
def HB (d : PD) (L : Nat) (P : Nat → Nat) (a w j : Nat) (x : Int32) : Prop := (x = 1 ∧ ∃ i, i < j ∧ NXf d P a w i + BE d (dn d - i) (w + 1) = L) ∨ (x = 0 ∧ ∀ i, i < j → ¬ NXf d P a w i + BE d (dn d - i) (w + 1) = L)
def GO (d : PD) (P : Nat → Nat) (a w : Nat) (mem : TMem) (j : Nat) (m : TMem) : Prop := (∀ f, f < j → m 207 f = nI (NXf d P a w f)) ∧ ∀ o k, ¬ o = 207 → m o k = mem o k
set_option maxRecDepth 100000 in
theorem C_goesOn (l : Launch) {mem : TMem} {d : PD} {P : Nat → Nat} {a w L : Nat} (hd : DM mem d) (ha : a ≤ dW d) (hw : w < dW d) (hP : ∀ f, f ≤ dn d → mem 206 f = nI (P f) ∧ P f ≤ 1000000) (hT0 : LRT d mem) (hL : L ≤ 1000000) : TMi l i_X11_goesOn 1 22 [.inr 187, .inl (wi a), .inl (nI w), .inl (nI L)] mem (fun x m => ((x = 1 ∧ hit d L P a w = true) ∨ (x = 0 ∧ ¬ hit d L P a w = true)) ∧ GO d P a w mem (dn d + 1) m) := by
  refine tw_met (by decide) (Nat.le_of_ble_eq_true rfl) (fun κ hl hC hT => ?_)
  have h40 := hd.n40
  have h8 := hd.w8
  obtain ⟨b1, b2⟩ := hd.be a (w + 1) (by omega) (by omega)
  rw [wi_s] at b1 b2
  have hdm : ∀ j m, GO d P a w mem j m → DM m d := fun j m h => hd.of (h.2 187 0 (by omega)) (h.2 187 3 (by omega)) (h.2 187 4 (by omega)) (fun o q1 q2 => funext fun k => h.2 o k (by omega))
  have hbe : ∀ j m, GO d P a w mem j m → F_X11_behind m (wi a) (nI w) = F_X11_behind mem (wi a) (nI w) := fun j m h => by
    unfold F_X11_behind
    rw [show m 193 = mem 193 from funext fun k => h.2 193 k (by omega)]
  have fin : ∀ j x m, j ≤ dn d → HB d L P a w j x → GO d P a w mem j m → (∀ x2 m2, HB d L P a w (j + 1) x2 → GO d P a w mem (j + 1) m2 → WT κ 6 [some (.inr 187), some (.inl (wi a)), some (.inl (nI w)), some (.inl (nI L)), some (.inl x2), some (.inl (nI (j + 1))), none, none] [] m2) → (vp_in (nI j) 41 ∧ ((x = 0 → (G_X11_restAt (nI j) (nI w) ∧ (((nI (NXf d P a w j) + (F_X11_restAt (mset m 207 (nI j).toNatClampNeg (nI (NXf d P a w j))) (nI j) (nI w))) = nI L → (WT κ 6 [some (.inr 187), some (.inl (wi a)), some (.inl (nI w)), some (.inl (nI L)), some (.inl 1), some (.inl (nI j + 1)), none, none] [] (mset m 207 (nI j).toNatClampNeg (nI (NXf d P a w j))))) ∧ (¬ ((nI (NXf d P a w j) + (F_X11_restAt (mset m 207 (nI j).toNatClampNeg (nI (NXf d P a w j))) (nI j) (nI w))) = nI L) → (WT κ 6 [some (.inr 187), some (.inl (wi a)), some (.inl (nI w)), some (.inl (nI L)), some (.inl 0), some (.inl (nI j + 1)), none, none] [] (mset m 207 (nI j).toNatClampNeg (nI (NXf d P a w j)))))))) ∧ (¬ (x = 0) → (WT κ 6 [some (.inr 187), some (.inl (wi a)), some (.inl (nI w)), some (.inl (nI L)), some (.inl 1), some (.inl (nI j + 1)), none, none] [] (mset m 207 (nI j).toNatClampNeg (nI (NXf d P a w j))))))) := by
    intro j x m hj hb hm next
    rw [nI_clamp (n := j) (by omega), nI_1 j]
    have hN := NXf_far d P a w j
    have hB : BE d (dn d - j) (w + 1) ≤ 1000000 := BE_farM hd (by omega)
    have g : GO d P a w mem (j + 1) (mset m 207 j (nI (NXf d P a w j))) := ⟨fun f hf => by
      by_cases e : f = j
      · subst e; rw [ms_eq]
      · rw [ms_sl e]; exact hm.1 f (by omega), fun o k q => by rw [ms_ne q]; exact hm.2 o k q⟩
    obtain ⟨g1, g2⟩ := restAt_ix (mset m 207 j (nI (NXf d P a w j))) (i := j) (a := w + 1) (by omega) (by omega)
    rw [wi_s, ms_ne (by omega), hm.2 204 _ (by omega), hT0.2 j (w + 1) hj (by omega), RE_s] at g2
    rw [wi_s] at g1
    rw [g2, nI_add, nI_eq (by omega) (by omega)]
    refine ⟨vp_in_nI (by omega) (by omega), fun q => ⟨g1, fun q2 => next 1 _ (Or.inl ⟨rfl, j, by omega, q2⟩) g, fun q2 => next 0 _ (Or.inr ⟨rfl, fun i hi => ?_⟩) g⟩, fun q => next 1 _ (Or.inl ⟨rfl, ?_⟩) g⟩
    · rcases hb with ⟨z, -⟩ | ⟨-, z⟩
      · exact absurd (z.symm.trans q) (by decide)
      · by_cases e : i = j
        · subst e; exact q2
        · exact z i (by omega)
    · rcases hb with ⟨-, i, z1, z2⟩ | ⟨z, -⟩
      · exact ⟨i, by omega, z2⟩
      · exact absurd z q
  have inner : ∀ j x m, j ≤ dn d → HB d L P a w j x → GO d P a w mem j m → (∀ x2 m2, HB d L P a w (j + 1) x2 → GO d P a w mem (j + 1) m2 → WT κ 6 [some (.inr 187), some (.inl (wi a)), some (.inl (nI w)), some (.inl (nI L)), some (.inl x2), some (.inl (nI (j + 1))), none, none] [] m2) → ∀ c i, c + i = j → WT κ 22 [some (.inr 187), some (.inl (wi a)), some (.inl (nI w)), some (.inl (nI L)), some (.inl x), some (.inl (nI j)), some (.inl (nI (mn i (fun i => sa (P i + OF d w i (j - i)) (dJ d a (w + 1)))))), some (.inl (nI i))] [] m := by
    intro j x m hj hb hm next c
    have hcap : ∀ i, mn i (fun i => sa (P i + OF d w i (j - i)) (dJ d a (w + 1))) = mn i (fun i => P i + OF d w i (j - i) + dJ d a (w + 1)) := fun i => mn_cap i (fun i => P i + OF d w i (j - i) + dJ d a (w + 1))
    induction c with
    | zero =>
      intro i hc
      have : i = j := by omega
      subst this
      rw [hcap, NX_sum]
      exact K_X11_goesOn_22 hC hT m _ _ _ _ _ _ _ ⟨fun _ => fin i x m hj hb hm next, fun q => absurd (nI_le (Nat.le_refl _) (by omega)) q⟩
    | succ c ih =>
      intro i hc
      refine K_X11_goesOn_22 hC hT m _ _ _ _ _ _ _ ⟨fun q => absurd q (nI_ge (by omega) (by omega)), fun _ => ⟨b1, ?_⟩⟩
      rw [hbe j m hm]
      rcases b2 with ⟨b2, b3⟩ | ⟨b3, b2⟩
      · rw [b2]
        refine ⟨fun _ => ?_, fun q => absurd (by decide) q⟩
        have e : mn i (fun i => sa (P i + OF d w i (j - i)) (dJ d a (w + 1))) = NXf d P a w j := by
          rw [NX_bar b3]
          refine mn_const_far _ (fun i _ => ?_)
          rw [b3]
          exact sa_farR _
        rw [e]
        exact fin j x m hj hb hm next
      · rw [b2]
        have nx := ih (i + 1) (by omega)
        have hmf := mn_far i (fun i => sa (P i + OF d w i (j - i)) (dJ d a (w + 1)))
        obtain ⟨p1, p2⟩ := hP i (by omega)
        have ho := OF_far d w i (j - i)
        refine ⟨fun q => absurd q (nI_pos (by omega)), fun _ => ⟨vp_in_nI (by omega) (by omega), ?_⟩⟩
        rw [ixI, nI_clamp (n := (41 * w + i) * 41 + j) (by omega), nI_clamp (n := i) (by omega), hm.2 206 i (by omega), p1, hm.2 201 _ (by omega), hT0.1 w i j hw (by omega) (by omega) hj, nI_add, nI_add, lesser_nI (by omega) (by omega), nI_1 i]
        have e : mn (i + 1) (fun i => sa (P i + OF d w i (j - i)) (dJ d a (w + 1))) = min (mn i (fun i => sa (P i + OF d w i (j - i)) (dJ d a (w + 1)))) (P i + OF d w i (j - i) + dJ d a (w + 1)) := by
          show min (mn i _) (sa (P i + OF d w i (j - i)) (dJ d a (w + 1))) = _
          unfold sa at hmf ⊢
          omega
        rw [e] at nx
        exact ⟨vp_in_nI (by omega) (by omega), nx⟩
  have outer : ∀ c j x m, c + j = dn d + 1 → HB d L P a w j x → GO d P a w mem j m → WT κ 6 [some (.inr 187), some (.inl (wi a)), some (.inl (nI w)), some (.inl (nI L)), some (.inl x), some (.inl (nI j)), none, none] [] m := by
    intro c
    induction c with
    | zero =>
      intro j x m hc hb hm
      have : j = dn d + 1 := by omega
      subst this
      refine K_X11_goesOn_6 hC hT m _ _ _ _ _ ?_
      rw [(hdm _ m hm).fr]
      refine ⟨fun _ => ⟨?_, x, rfl, ?_, hm⟩, fun q => absurd (nI_lt (by omega) (by omega)) q⟩
      · rcases hb with ⟨z, -⟩ | ⟨z, -⟩
        · exact Or.inr z
        · exact Or.inl z
      · rcases hb with ⟨z, i, z1, z2⟩ | ⟨z, z2⟩
        · exact Or.inl ⟨z, hit_iff.mpr ⟨i, by omega, z2⟩⟩
        · exact Or.inr ⟨z, fun q => by obtain ⟨i, q1, q2⟩ := hit_iff.mp q; exact z2 i (by omega) q2⟩
    | succ c ih =>
      intro j x m hc hb hm
      refine K_X11_goesOn_6 hC hT m _ _ _ _ _ ?_
      rw [(hdm _ m hm).fr]
      exact ⟨fun q => absurd q (nI_nlt (by omega) (by omega)), fun _ => inner j x m (by omega) hb hm (fun x2 m2 q1 q2 => ih (j + 1) x2 m2 (by omega) q1 q2) j 0 (by omega)⟩
  exact K_X11_goesOn_0 hC hT mem _ _ _ (outer (dn d + 1) 0 0 mem (by omega) (Or.inr ⟨rfl, fun i hi => by omega⟩) ⟨fun f hf => by omega, fun _ _ _ => rfl⟩)
def RFM (d : PD) (mem : TMem) (r : Nat) (P : Nat → Nat) (pre : List Nat) (m : TMem) : Prop := (∀ g, g ≤ dn d → m 206 g = nI (P g)) ∧ m 187 26 = nI r ∧ (∀ i, i < r → m 205 i = nI (pre.getD i 0)) ∧ LRT d m ∧ ∀ o j, o < 201 → ¬ (o = 187 ∧ j = 26) → m o j = mem o j
theorem RFM.dm {d : PD} {mem : TMem} {r : Nat} {P : Nat → Nat} {pre : List Nat} {m : TMem} (h : RFM d mem r P pre m) (hd : DM mem d) : DM m d :=
  hd.of (h.2.2.2.2 187 0 (by omega) (by omega)) (h.2.2.2.2 187 3 (by omega) (by omega)) (h.2.2.2.2 187 4 (by omega) (by omega)) (fun o h1 h2 => funext fun j => h.2.2.2.2 o j (by omega) (by omega))
theorem LRT.ms {d : PD} {m : TMem} {o k : Nat} {x : Int32} (h : LRT d m) (h1 : ¬ o = 201) (h2 : ¬ o = 204) : LRT d (mset m o k x) :=
  ⟨fun w i j q1 q2 q3 q4 => by rw [ms_ne (by omega)]; exact h.1 w i j q1 q2 q3 q4, fun i a q1 q2 => by rw [ms_ne (by omega)]; exact h.2 i a q1 q2⟩
theorem RFM.go {d : PD} {mem : TMem} {r : Nat} {P : Nat → Nat} {pre : List Nat} {m m2 : TMem} (h : RFM d mem r P pre m) (ho : ∀ o k, ¬ o = 207 → m2 o k = m o k) : RFM d mem r P pre m2 :=
  ⟨fun g hg => by rw [ho 206 g (by omega)]; exact h.1 g hg, by rw [ho 187 26 (by omega)]; exact h.2.1, fun i hi => by rw [ho 205 i (by omega)]; exact h.2.2.1 i hi, ⟨fun w i j q1 q2 q3 q4 => by rw [ho 201 _ (by omega)]; exact h.2.2.2.1.1 w i j q1 q2 q3 q4, fun i a q1 q2 => by rw [ho 204 _ (by omega)]; exact h.2.2.2.1.2 i a q1 q2⟩, fun o j q1 q2 => by rw [ho o j (by omega)]; exact h.2.2.2.2 o j q1 q2⟩
def FRM (d : PD) (mem : TMem) (m : TMem) : Prop := (LSd d < 1000000 → (m 187 26 = nI (ROW d).length ∧ ∀ i, i < (ROW d).length → m 205 i = nI ((ROW d).getD i 0))) ∧ LRT d m ∧ ∀ o j, o < 201 → ¬ (o = 187 ∧ j = 26) → m o j = mem o j
set_option maxRecDepth 100000 in
theorem C_findRowM (l : Launch) {mem : TMem} {d : PD} (hd : DM mem d) : TMi l i_X11_findRow 5 116 [.inr 187] mem (fun x m => x = lsB d ∧ FRM d mem m) := by
  refine tw_met (by decide) (Nat.le_of_ble_eq_true rfl) (fun κ hl hC hT => ?_)
  have h40 := hd.n40
  have h8 := hd.w8
  have hlw : ∀ w v, w < dW d → v < dwy d w → 0 < dln d w v := fun w v h1 h2 => (hd.ln w v h1 h2).1
  have eM : (1000000 : Int32) = nI 1000000 := rfl
  have hLf : LSd d ≤ 1000000 := by rw [← RE_00]; exact RE_far hd (by omega)
  have copy : ∀ w r P P2 pre, (∀ m, RFM d mem r P2 pre m → WT κ 52 [some (.inr 187), some (.inl (nI (LSd d))), some (.inl (nI w)), none, none] [] m) → ∀ c i m, c + i = dn d + 1 → RFM d mem r P pre m → (∀ g, g < i → P g = P2 g) → (∀ g, g ≤ dn d → m 207 g = nI (P2 g)) → WT κ 129 [some (.inr 187), some (.inl (nI (LSd d))), some (.inl (nI w)), none, some (.inl (nI i))] [] m := by
    intro w r P P2 pre next c
    induction c generalizing P with
    | zero =>
      intro i m hc hm hP h7
      refine K_X11_findRow_129 hC hT m _ _ _ ?_
      rw [(hm.dm hd).fr]
      refine ⟨fun _ => next m ⟨fun g hg => ?_, hm.2⟩, fun q => absurd (nI_lt (by omega) (by omega)) q⟩
      rw [hm.1 g hg, hP g (by omega)]
    | succ c ih =>
      intro i m hc hm hP h7
      refine K_X11_findRow_129 hC hT m _ _ _ ?_
      rw [(hm.dm hd).fr, nI_clamp (n := i) (by omega), h7 i (by omega), nI_1 i]
      refine ⟨fun q => absurd q (nI_nlt (by omega) (by omega)), fun _ => ⟨vp_in_nI (by omega) (by omega), ih (fun g => if g < i + 1 then P2 g else P g) (i + 1) _ (by omega) ⟨fun g hg => ?_, by rw [ms_ne (by omega)]; exact hm.2.1, fun i hi => by rw [ms_ne (by omega)]; exact hm.2.2.1 i hi, hm.2.2.2.1.ms (by omega) (by omega), fun o j q1 q2 => by rw [ms_ne (by omega)]; exact hm.2.2.2.2 o j q1 q2⟩ ?_ (fun g hg => by rw [ms_ne (by omega)]; exact h7 g hg)⟩⟩
      · show mset m 206 i (nI (P2 i)) 206 g = nI (if g < i + 1 then P2 g else P g)
        by_cases e : g = i
        · subst e
          rw [ms_eq, if_pos (by omega)]
        · rw [ms_sl e, hm.1 g hg]
          by_cases e2 : g < i
          · rw [if_pos (by omega), hP g e2]
          · rw [if_neg (by omega)]
      · intro g hg
        exact if_pos hg
  have search : ∀ a P w, a ≤ dW d → w < dW d → hit d (LSd d) P a w = true → (∀ x, x < w → ¬ hit d (LSd d) P a x = true) → (∀ g, P g ≤ 1000000) → ∀ r pre, r < 40 → (∀ m, RFM d mem (r + 1) P (pre ++ [w]) m → (∀ g, g ≤ dn d → m 207 g = nI (NXf d P a w g)) → WT κ 129 [some (.inr 187), some (.inl (nI (LSd d))), some (.inl (nI w)), none, some (.inl 0)] [] m) → pre.length = r → ∀ c x m, c + x = w → RFM d mem r P pre m → WT κ 88 [some (.inr 187), some (.inl (nI (LSd d))), some (.inl (wi a)), some (.inl (nI x)), none] [] m := by
    intro a P w ha hw hh hno hPf r pre hr next hpre c
    induction c with
    | zero =>
      intro x m hc hm
      have : x = w := by omega
      subst this
      refine K_X11_findRow_88 hC hT m _ _ _ ⟨_, C_goesOn _ (P := P) (L := LSd d) (hm.dm hd) ha hw (fun f hf => ⟨hm.1 f hf, hPf f⟩) hm.2.2.2.1 hLf, ?_⟩
      rintro y m2 ⟨hy, g1, g2⟩
      have hy1 : y = 1 := by
        rcases hy with ⟨z, -⟩ | ⟨-, z⟩
        · exact z
        · exact absurd hh z
      subst hy1
      have hm2 := hm.go g2
      rw [hm2.2.1, nI_clamp (n := r) (by omega), nI_1 r]
      refine ⟨fun q => absurd q (by decide), fun _ => ⟨vp_in_nI (by omega) (by omega), next _ ⟨fun g hg => by rw [ms_ne (by omega), ms_ne (by omega)]; exact hm2.1 g hg, by rw [ms_eq], fun i hi => ?_, (hm2.2.2.2.1.ms (by omega) (by omega)).ms (by omega) (by omega), fun o j q1 q2 => ?_⟩ (fun g hg => by rw [ms_ne (by omega), ms_ne (by omega)]; exact g1 g (by omega))⟩⟩
      · rw [ms_ne (by omega)]
        by_cases e : i = r
        · subst e
          subst hpre
          rw [ms_eq, getD_r]
        · rw [ms_sl e, getD_l (by omega)]
          exact hm2.2.2.1 i (by omega)
      · by_cases e : o = 187
        · subst e
          rw [ms_sl (by omega), ms_ne (by omega)]
          exact hm2.2.2.2.2 187 j q1 q2
        · rw [ms_ne e, ms_ne (by omega)]
          exact hm2.2.2.2.2 o j q1 q2
    | succ c ih =>
      intro x m hc hm
      refine K_X11_findRow_88 hC hT m _ _ _ ⟨_, C_goesOn _ (P := P) (L := LSd d) (hm.dm hd) ha (by omega) (fun f hf => ⟨hm.1 f hf, hPf f⟩) hm.2.2.2.1 hLf, ?_⟩
      rintro y m2 ⟨hy, g1, g2⟩
      have hy0 : y = 0 := by
        rcases hy with ⟨-, z⟩ | ⟨z, -⟩
        · exact absurd z (hno x (by omega))
        · exact z
      subst hy0
      rw [nI_1 x]
      exact ⟨fun _ => ih (x + 1) m2 (by omega) (hm.go g2), fun q => absurd rfl q⟩
  have main : LSd d < 1000000 → ∀ f r P a pre m, r + f = dn d → RI d (LSd d) r P a → pre.length = r → pre ++ RWs d (LSd d) f P a = ROW d → RFM d mem r P pre m → WT κ 52 [some (.inr 187), some (.inl (nI (LSd d))), some (.inl (wi a)), none, none] [] m := by
    intro hL f
    induction f with
    | zero =>
      intro r P a pre m hr hI hp hrow hm
      have ht := RI_full hI hL (by omega)
      have haw := hI.2.2.2.2.1
      have hdm := hm.dm hd
      obtain ⟨b1, b2⟩ := hdm.be a 0 (by omega) (by omega)
      rw [wi_0] at b1 b2
      have e : pre = ROW d := by rw [← hrow]; exact (List.append_nil pre).symm
      obtain ⟨b, rfl⟩ : ∃ b, a = b + 1 := ⟨a - 1, by have := ht.1; omega⟩
      rw [wi_s] at b1 b2
      rcases b2 with ⟨b2, b3⟩ | ⟨b3, b2⟩
      · have := ht.2; omega
      · refine K_X11_findRow_52 hC hT m _ _ ?_
        rw [wi_s, b2, hdm.fr, nI_clamp (n := dn d) (by omega), hm.1 (dn d) (Nat.le_refl _), nI_add, ht.2]
        refine ⟨fun q => absurd q (nI_nm1 (by omega)), fun _ => ⟨b1, fun q => absurd q (nI_pos (by omega)), fun _ => ⟨vp_in_nI (by omega) (by omega), fun _ => ⟨_, rfl, by unfold lsB; rw [if_pos hL], fun _ => ⟨?_, fun i hi => ?_⟩, hm.2.2.2.1, hm.2.2.2.2⟩, fun q => absurd rfl q⟩⟩⟩
        · rw [← e, hp]; exact hm.2.1
        · rw [← e] at hi ⊢; exact hm.2.2.1 i (by omega)
    | succ f ih =>
      intro r P a pre m hr hI hp hrow hm
      have haw := hI.2.2.2.2.1
      have hdm := hm.dm hd
      obtain ⟨b1, b2⟩ := hdm.be a 0 (by omega) (by omega)
      rw [wi_0] at b1 b2
      by_cases ht : a ≠ 0 ∧ P (dn d) + dJ d a 0 = LSd d
      · have e : pre = ROW d := by rw [← hrow, RWs_end ht]; exact (List.append_nil pre).symm
        obtain ⟨b, rfl⟩ : ∃ b, a = b + 1 := ⟨a - 1, by have := ht.1; omega⟩
        rw [wi_s] at b1 b2
        rcases b2 with ⟨b2, b3⟩ | ⟨b3, b2⟩
        · have := ht.2; omega
        · refine K_X11_findRow_52 hC hT m _ _ ?_
          rw [wi_s, b2, hdm.fr, nI_clamp (n := dn d) (by omega), hm.1 (dn d) (Nat.le_refl _), nI_add, ht.2]
          refine ⟨fun q => absurd q (nI_nm1 (by omega)), fun _ => ⟨b1, fun q => absurd q (nI_pos (by omega)), fun _ => ⟨vp_in_nI (by omega) (by omega), fun _ => ⟨_, rfl, by unfold lsB; rw [if_pos hL], fun _ => ⟨?_, fun i hi => ?_⟩, hm.2.2.2.1, hm.2.2.2.2⟩, fun q => absurd rfl q⟩⟩⟩
          · rw [← e, hp]; exact hm.2.1
          · rw [← e] at hi ⊢; exact hm.2.2.1 i (by omega)
      · obtain ⟨w, g, hg, hw, hm1, hm2, hm3, hm4⟩ := RI_step (f := f + 1) hlw hI hL hr ht
        have hfg : g = f := by omega
        subst hfg
        have go : WT κ 88 [some (.inr 187), some (.inl (nI (LSd d))), some (.inl (wi a)), some (.inl 0), none] [] m := by
          refine search a P w haw hw ((RI_hitM hI hL hw (fun v hv => hlw w v hw hv)).mpr hm1) (fun x hx z => hm2 x hx ((RI_hitM hI hL (by omega) (fun v hv => hlw x v (by omega) hv)).mp z)) hI.2.2.1 r pre (by omega) (fun m2 z1 z2 => ?_) hp w 0 m (by omega) hm
          refine copy w (r + 1) P (NXf d P a w) (pre ++ [w]) (fun m3 z3 => ?_) (dn d + 1) 0 m2 (by omega) z1 (fun g hg => by omega) z2
          exact ih (r + 1) (NXf d P a w) (w + 1) (pre ++ [w]) m3 (by omega) hm4 (by rw [List.length_append, hp]; rfl) (by rw [← hrow, hm3, List.append_assoc]; rfl) z3
        have hPn := hI.2.2.1 (dn d)
        refine K_X11_findRow_52 hC hT m _ _ ⟨fun _ => go, fun q => ⟨b1, fun _ => go, fun q2 => ?_⟩⟩
        rcases b2 with ⟨b2, b3⟩ | ⟨b3, b2⟩
        · rw [b2] at q2
          exact absurd (by decide) q2
        · rw [b2, hdm.fr, nI_clamp (n := dn d) (by omega), hm.1 (dn d) (Nat.le_refl _), nI_add, nI_eq (by omega) (by omega)]
          exact ⟨vp_in_nI (by omega) (by omega), fun q3 => absurd ⟨fun z => q (by rw [z]; rfl), q3⟩ ht, fun _ => go⟩
  have init : LSd d < 1000000 → ∀ c i m, c + i = dn d + 1 → (∀ g, g < i → m 206 g = nI (P0 g)) → m 187 26 = 0 → LRT d m → (∀ o j, o < 201 → ¬ (o = 187 ∧ j = 26) → m o j = mem o j) → WT κ 20 [some (.inr 187), some (.inl (nI (LSd d))), some (.inl (nI i)), none, none] [] m := by
    intro hL c
    have hn : 0 < dn d := by
      rcases Nat.eq_zero_or_pos (dn d) with q | q
      · unfold LSd at hL; rw [if_pos q] at hL; omega
      · exact q
    have eL : LSd d = BE d (dn d) 0 := if_neg (by omega)
    induction c with
    | zero =>
      intro i m hc h6 h2 hT0 ho
      have ef : m 187 0 = nI (dn d) := by rw [ho 187 0 (by omega) (by omega)]; exact hd.fr
      refine K_X11_findRow_20 hC hT m _ _ ?_
      rw [ef]
      refine ⟨fun _ => main hL (dn d) 0 P0 0 [] m (by omega) (by rw [eL]; exact RI_start hn (by rw [← eL]; exact hL)) rfl rfl ⟨fun g hg => h6 g (by omega), h2, fun i hi => by omega, hT0, ho⟩, fun q => absurd (nI_lt (by omega) (by omega)) q⟩
    | succ c ih =>
      intro i m hc h6 h2 hT0 ho
      have ef : m 187 0 = nI (dn d) := by rw [ho 187 0 (by omega) (by omega)]; exact hd.fr
      have nx : ∀ x, x = nI (P0 i) → WT κ 20 [some (.inr 187), some (.inl (nI (LSd d))), some (.inl (nI (i + 1))), none, none] [] (mset m 206 i x) := fun x hx => by
        refine ih (i + 1) _ (by omega) (fun g hg => ?_) (by rw [ms_ne (by omega)]; exact h2) (hT0.ms (by omega) (by omega)) (fun o j q1 q2 => by rw [ms_ne (by omega)]; exact ho o j q1 q2)
        by_cases e : g = i
        · subst e; rw [ms_eq]; exact hx
        · rw [ms_sl e]; exact h6 g (by omega)
      refine K_X11_findRow_20 hC hT m _ _ ?_
      rw [ef, nI_clamp (n := i) (by omega), nI_1 i]
      refine ⟨fun q => absurd q (nI_nlt (by omega) (by omega)), fun _ => ⟨fun q => ⟨vp_in_nI (by omega) (by omega), nx _ ?_⟩, fun q => ⟨vp_in_nI (by omega) (by omega), nx _ ?_⟩⟩⟩
      · have : i = 0 := (nI_eq (b := 0) (by omega) (by omega)).mp q
        subst this
        rfl
      · have : ¬ i = 0 := fun z => q (by rw [z]; rfl)
        unfold P0
        rw [if_neg this]
        rfl
  refine K_X11_findRow_0 hC hT mem ⟨_, C_leastNow _ hd, ?_⟩
  rintro x m ⟨rfl, r1, r2⟩
  have ho : ∀ o j, o < 201 → ¬ (o = 187 ∧ j = 26) → (mset m 187 26 0) o j = mem o j := fun o j q1 q2 => by
    by_cases e : o = 187
    · subst e
      rw [ms_sl (by omega)]
      exact r2 187 j q1
    · rw [ms_ne e]
      exact r2 o j q1
  rw [eM, nI_eq (by omega) (by omega)]
  refine ⟨fun q => ⟨_, rfl, by unfold lsB; rw [if_neg (by omega)], fun z => by omega, r1.ms (by omega) (by omega), ho⟩, fun q => ?_⟩
  exact init (by omega) (dn d + 1) 0 _ (by omega) (fun g hg => by omega) (by rw [ms_eq]) (r1.ms (by omega) (by omega)) ho
