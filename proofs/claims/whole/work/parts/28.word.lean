theorem inv_words {k at_ : Nat} {mem m2 : TMem} {n W W2 T : Nat} (hat : at_ < 16) (a1 : R_fr mem n) (a2 : R_mk mem n) (a3 : R_co mem) (a4 : R_st mem) (a7 : R_gr mem) (a8 : R_to mem W T) (b1 : R_kp mem (40 * k)) (b2 : R_ea mem) (hW : W ≤ W2)
    (f1 : ∀ o j, ¬ o = 28 → ¬ o = 29 → ¬ o = 12 + at_ → ¬ o = 40 → ¬ o = 108 → ¬ o = 10 → ¬ o = 191 → ¬ o = 192 → ¬ o = 187 → ¬ o = 190 → m2 o j = mem o j)
    (f2 : ∀ j, ¬ j = 11 → ¬ j = 4 → m2 187 j = mem 187 j) (f3 : m2 108 5 = 0) (f4 : m2 187 11 = 0) (f5 : m2 40 6 = 0) (a5 : R_wd m2 W2) (a6 : R_wy m2 W2) : INV (k + 1) m2 := by
  have g : ∀ o, ¬ o = 28 → ¬ o = 29 → ¬ o = 12 + at_ → ¬ o = 40 → ¬ o = 108 → ¬ o = 10 → ¬ o = 191 → ¬ o = 192 → ¬ o = 187 → ¬ o = 190 → m2 o = mem o := fun o q1 q2 q3 q4 q5 q6 q7 q8 q9 q10 => funext fun j => f1 o j q1 q2 q3 q4 q5 q6 q7 q8 q9 q10
  refine ⟨n, W2, T, ?_, ?_, ?_, ?_, a5, a6, ?_, ?_, R_la.no f3 f4, ?_, ?_, R_ca.no f5⟩
  · exact a1.of (f1 1 2 (by omega) (by omega) (by omega) (by omega) (by omega) (by omega) (by omega) (by omega) (by omega) (by omega)) (f2 0 (by omega) (by omega))
  · exact a2.of (g 2 (by omega) (by omega) (by omega) (by omega) (by omega) (by omega) (by omega) (by omega) (by omega) (by omega)) (g 188 (by omega) (by omega) (by omega) (by omega) (by omega) (by omega) (by omega) (by omega) (by omega) (by omega))
  · exact a3.of (g 189 (by omega) (by omega) (by omega) (by omega) (by omega) (by omega) (by omega) (by omega) (by omega) (by omega)) (fun s hs => g (4 + s) (by omega) (by omega) (by omega) (by omega) (by omega) (by omega) (by omega) (by omega) (by omega) (by omega))
  · exact a4.of (f1 1 3 (by omega) (by omega) (by omega) (by omega) (by omega) (by omega) (by omega) (by omega) (by omega) (by omega)) (f2 3 (by omega) (by omega))
  · exact a7.of (g 193 (by omega) (by omega) (by omega) (by omega) (by omega) (by omega) (by omega) (by omega) (by omega) (by omega)) (fun s hs => g (31 + s) (by omega) (by omega) (by omega) (by omega) (by omega) (by omega) (by omega) (by omega) (by omega) (by omega))
  · have := a8.of (f1 106 1 (by omega) (by omega) (by omega) (by omega) (by omega) (by omega) (by omega) (by omega) (by omega) (by omega)) (f2 9 (by omega) (by omega)) (g 107 (by omega) (by omega) (by omega) (by omega) (by omega) (by omega) (by omega) (by omega) (by omega) (by omega)) (g 194 (by omega) (by omega) (by omega) (by omega) (by omega) (by omega) (by omega) (by omega) (by omega) (by omega))
    obtain ⟨t1, t2, t3, t4⟩ := this
    exact ⟨t1, t2, t3, fun i hi => by obtain ⟨w, q1, q2⟩ := t4 i hi; exact ⟨w, by omega, q2⟩⟩
  · exact (b1.of (f1 156 3 (by omega) (by omega) (by omega) (by omega) (by omega) (by omega) (by omega) (by omega) (by omega) (by omega)) (f2 16 (by omega) (by omega)) (f1 156 2 (by omega) (by omega) (by omega) (by omega) (by omega) (by omega) (by omega) (by omega) (by omega) (by omega)) (g 199 (by omega) (by omega) (by omega) (by omega) (by omega) (by omega) (by omega) (by omega) (by omega) (by omega)) (g 200 (by omega) (by omega) (by omega) (by omega) (by omega) (by omega) (by omega) (by omega) (by omega) (by omega)) (g 198 (by omega) (by omega) (by omega) (by omega) (by omega) (by omega) (by omega) (by omega) (by omega) (by omega)) (fun s hs => g (158 + s) (by omega) (by omega) (by omega) (by omega) (by omega) (by omega) (by omega) (by omega) (by omega) (by omega)) (fun s hs => g (165 + s) (by omega) (by omega) (by omega) (by omega) (by omega) (by omega) (by omega) (by omega) (by omega) (by omega))).up (by omega)
  · exact b2.of (g 186 (by omega) (by omega) (by omega) (by omega) (by omega) (by omega) (by omega) (by omega) (by omega) (by omega)) (f2 19 (by omega) (by omega)) (f2 20 (by omega) (by omega)) (f2 21 (by omega) (by omega))
/-- the reference's four sounds at a place -/
def lay4 (m : TMem) (at_ ln : Nat) (s : Nat → Nat) : TMem := mset (mset (mset (mset (mset m 191 at_ (nI ln)) 192 (4 * at_) (qf ln s 0)) 192 (4 * at_ + 1) (qf ln s 1)) 192 (4 * at_ + 2) (qf ln s 2)) 192 (4 * at_ + 3) (qf ln s 3)
theorem lay4_192 {m : TMem} {at_ ln : Nat} {s : Nat → Nat} (hl : ln ≤ 4) {k : Nat} (hk : k < ln) : lay4 m at_ ln s 192 (4 * at_ + k) = nI (s k) := by
  have hq : qf ln s k = nI (s k) := if_pos hk
  have : k = 0 ∨ k = 1 ∨ k = 2 ∨ k = 3 := by omega
  unfold lay4
  rcases this with rfl | rfl | rfl | rfl
  · rw [ms_sl (by omega), ms_sl (by omega), ms_sl (by omega), Nat.add_zero, ms_eq, hq]
  · rw [ms_sl (by omega), ms_sl (by omega), ms_eq, hq]
  · rw [ms_sl (by omega), ms_eq, hq]
  · rw [ms_eq, hq]
theorem lay4_192o {m : TMem} {at_ ln : Nat} {s : Nat → Nat} {j : Nat} (hj : j < 4 * at_ ∨ 4 * at_ + 4 ≤ j) : lay4 m at_ ln s 192 j = m 192 j := by
  unfold lay4
  rw [ms_sl (by omega), ms_sl (by omega), ms_sl (by omega), ms_sl (by omega), ms_ne (by omega)]
theorem lay4_191 {m : TMem} {at_ ln : Nat} {s : Nat → Nat} : lay4 m at_ ln s 191 at_ = nI ln := by
  unfold lay4
  rw [ms_ne (by omega), ms_ne (by omega), ms_ne (by omega), ms_ne (by omega), ms_eq]
theorem lay4_191o {m : TMem} {at_ ln : Nat} {s : Nat → Nat} {j : Nat} (hj : ¬ j = at_) : lay4 m at_ ln s 191 j = m 191 j := by
  unfold lay4
  rw [ms_ne (by omega), ms_ne (by omega), ms_ne (by omega), ms_ne (by omega), ms_sl hj]
theorem lay4_o {m : TMem} {at_ ln : Nat} {s : Nat → Nat} {o j : Nat} (h1 : ¬ o = 191) (h2 : ¬ o = 192) : lay4 m at_ ln s o j = m o j := by
  unfold lay4
  rw [ms_ne h2, ms_ne h2, ms_ne h2, ms_ne h2, ms_ne h1]
theorem layG {at_ : Nat} (h : at_ < 16) (a b c d e : Int32) : G_X11_layWay (nI at_) a b c d e := by
  unfold G_X11_layWay
  have e4 : (4 : Int32) * nI at_ = nI (4 * at_) := by rw [show (4 : Int32) = nI 4 from rfl, pk_mul]
  rw [e4]
  refine ⟨vp_in_nI h (by omega), vp_in_nI (by omega) (by omega), ?_, ?_, ?_⟩
  · rw [show nI (4 * at_) + 1 = nI (4 * at_ + 1) from nI_add _ 1]; exact vp_in_nI (by omega) (by omega)
  · rw [show nI (4 * at_) + 2 = nI (4 * at_ + 2) from nI_add _ 2]; exact vp_in_nI (by omega) (by omega)
  · rw [show nI (4 * at_) + 3 = nI (4 * at_ + 3) from nI_add _ 3]; exact vp_in_nI (by omega) (by omega)
theorem S_word (l : Launch) (k : Nat) (mem : TMem) (h : INV k mem) (p1 p2 p3 p4 : Int32) : SIM l i_X10_word 4 86 i_X11_word 2 46 [.inl p1, .inl p2, .inl p3, .inl p4] (INV (k + 1)) mem := by
  obtain ⟨n, W, T, a1, a2, a3, a4, a5, a6, a7, a8, a9, b1, b2, b3⟩ := id h
  obtain ⟨hW, w1, w2⟩ := id a5
  rcases so_cases p1 p2 p3 p4 with ⟨c1, c2⟩ | ⟨ln, s, l1, l2, hs, e1, e2, e3, e4, c1, c2⟩
  · refine ⟨_, C_X10_word l mem p1 p2 p3 p4 (fun q => absurd c1 q), ?_⟩
    rintro x m1 ⟨rfl, rfl⟩
    have hM : M_X10_word mem p1 p2 p3 p4 = mem := by unfold M_X10_word; rw [if_pos c1]
    have hF : F_X10_word mem p1 p2 p3 p4 = -2 := by unfold F_X10_word; rw [if_pos c1]
    rw [hM, hF]
    refine ⟨_, C_X11_word l _ p1 p2 p3 p4 (fun q => absurd c2 q), ?_⟩
    rintro y m2 ⟨rfl, rfl⟩
    unfold F_X11_word M_X11_word
    rw [if_pos c2, if_pos c2]
    exact ⟨rfl, INV_up _ _ h⟩
  have cn : ¬ F_X11_manyOf p1 p2 p3 p4 = -1 := by
    rw [c2]
    intro q
    have := congrArg Int32.toInt q
    rw [nI_toInt (by omega)] at this
    have e : (-1 : Int32).toInt = -1 := by decide
    omega
  by_cases hlt : W < 8
  · have lt : nI W < 8 := (nI_ltI (b := 8) (by omega) (by omega)).mpr hlt
    have hmb : M_X5_addWord (mset (mset mem 40 6 0) 108 5 0) = mset (mset (mset mem 40 6 0) 108 5 0) 10 4 (nI (W + 1)) := by
      unfold M_X5_addWord
      have r : (mset (mset mem 40 6 0) 108 5 0) 10 4 = nI W := by rw [ms_ne (by omega), ms_ne (by omega)]; exact w1
      rw [r, if_neg (show ¬ (8 : Int32) ≤ nI W from nI_ge (b := 8) hlt (by omega)), nI_1]
    obtain ⟨z1, z2, -⟩ := a6.2 W hlt (Nat.le_refl _)
    generalize hmbe : mset (mset (mset mem 40 6 0) 108 5 0) 10 4 (nI (W + 1)) = mb at hmb
    have hb : ∀ o j, ¬ o = 40 → ¬ o = 108 → ¬ o = 10 → mb o j = mem o j := fun o j q1 q2 q3 => by rw [← hmbe, ms_ne q3, ms_ne q2, ms_ne q1]
    obtain ⟨gA, hA⟩ := addWay_ok (mem := mb) (w := W) (u := 0) l1 l2 hlt (by omega) hs (by rw [hb 29 W (by omega) (by omega) (by omega), z1, nI_0]) (by rw [hb 28 _ (by omega) (by omega) (by omega)]; exact z2)
    rw [← e1, ← e2, ← e3, ← e4] at gA
    refine ⟨_, C_X10_word l mem p1 p2 p3 p4 (fun _ _ => by rw [hmb, w1]; exact gA), ?_⟩
    rintro x m1 ⟨rfl, rfl⟩
    have hF : F_X10_word mem p1 p2 p3 p4 = nI W := by unfold F_X10_word; rw [if_neg c1, w1, if_pos lt]
    have hM : M_X10_word mem p1 p2 p3 p4 = M_X5_addWay mb (nI W) (qf ln s 0) (qf ln s 1) (qf ln s 2) (qf ln s 3) := by unfold M_X10_word; rw [if_neg c1, w1, if_pos lt, hmb, e1, e2, e3, e4]
    rw [hF]
    obtain ⟨x1, x2, x3, x4, x5, x6⟩ := hA _ hM
    generalize M_X10_word mem p1 p2 p3 p4 = m1 at x1 x2 x3 x4 x5 x6
    have r4 : m1 187 4 = nI W := by rw [x6 187 4 (by omega) (by omega) (by omega), hb 187 4 (by omega) (by omega) (by omega)]; exact w2
    have ne8 : ¬ nI W = 8 := fun q => by have := (nI_eq (b := 8) (by omega) (by omega)).mp q; omega
    have e2W : (2 : Int32) * nI W = nI (2 * W) := by rw [show (2 : Int32) = nI 2 from rfl, pk_mul]
    have e8W : (4 : Int32) * nI (2 * W) = nI (4 * (2 * W)) := by rw [show (4 : Int32) = nI 4 from rfl, pk_mul]
    refine ⟨_, C_X11_word l m1 p1 p2 p3 p4 ?_, ?_⟩
    · unfold G_X11_word
      rw [r4, e2W]
      exact fun _ _ => ⟨layG (by omega) _ _ _ _ _, vp_in_nI hlt (by omega)⟩
    rintro y m2 ⟨rfl, rfl⟩
    have hM2 : M_X11_word m1 p1 p2 p3 p4 = mset (mset (mset (lay4 m1 (2 * W) ln s) 187 11 0) 190 W 1) 187 4 (nI (W + 1)) := by
      unfold M_X11_word lay4
      rw [if_neg cn, r4, if_neg ne8, e2W, e8W, show nI (4 * (2 * W)) + 1 = nI (4 * (2 * W) + 1) from nI_add _ 1, show nI (4 * (2 * W)) + 2 = nI (4 * (2 * W) + 2) from nI_add _ 2, show nI (4 * (2 * W)) + 3 = nI (4 * (2 * W) + 3) from nI_add _ 3, nI_clamp (by omega), nI_clamp (by omega), nI_clamp (by omega), nI_clamp (by omega), nI_clamp (by omega), nI_clamp (by omega), c2, nI_1, ← e1, ← e2, ← e3, ← e4]
    have hF2 : F_X11_word m1 p1 p2 p3 p4 = nI W := by
      unfold F_X11_word
      rw [if_neg cn, r4, if_neg ne8, nI_1, nI_pred]
    rw [hM2, hF2]
    refine ⟨rfl, inv_words (at_ := 2 * W + 0) (W2 := W + 1) (by omega) a1 a2 a3 a4 a7 a8 b1 b2 (by omega) ?_ ?_ ?_ ?_ ?_ ⟨by omega, ?_, ?_⟩ ⟨fun w hw => ?_, fun w hw hw2 => ?_⟩⟩
    · intro o j q1 q2 q3 q4 q5 q6 q7 q8 q9 q10
      rw [ms_ne q9, ms_ne q10, ms_ne q9, lay4_o q7 q8, x6 o j q1 q2 q3, hb o j q4 q5 q6]
    · intro j q1 q2
      rw [ms_sl q2, ms_ne (by omega), ms_sl q1, lay4_o (by omega) (by omega), x6 187 j (by omega) (by omega) (by omega), hb 187 j (by omega) (by omega) (by omega)]
    · rw [ms_ne (by omega), ms_ne (by omega), ms_ne (by omega), lay4_o (by omega) (by omega), x6 108 5 (by omega) (by omega) (by omega), ← hmbe, ms_ne (by omega), ms_eq]
    · rw [ms_sl (by omega), ms_ne (by omega), ms_eq]
    · rw [ms_ne (by omega), ms_ne (by omega), ms_ne (by omega), lay4_o (by omega) (by omega), x6 40 6 (by omega) (by omega) (by omega), ← hmbe, ms_ne (by omega), ms_ne (by omega), ms_eq]
    · rw [ms_ne (by omega), ms_ne (by omega), ms_ne (by omega), lay4_o (by omega) (by omega), x6 10 4 (by omega) (by omega) (by omega), ← hmbe, ms_eq]
    · rw [ms_eq]
    · have R : ∀ o j, ¬ o = 187 → ¬ o = 190 → (mset (mset (mset (lay4 m1 (2 * W) ln s) 187 11 0) 190 W 1) 187 4 (nI (W + 1))) o j = lay4 m1 (2 * W) ln s o j := fun o j q1 q2 => by rw [ms_ne q1, ms_ne q2, ms_ne q1]
      by_cases hwW : w = W
      · subst hwW
        refine ⟨1, by omega, by omega, ?_, ?_, fun u hu => ?_, fun u hu hv => ?_⟩
        · rw [R 29 w (by omega) (by omega), lay4_o (by omega) (by omega), x1]
        · rw [ms_ne (by omega), ms_eq]; rfl
        · have hu0 : u = 0 := by omega
          subst hu0
          refine ⟨ln, l1, l2, ?_, ?_, fun k hk => ⟨s k, hs k hk, ?_, ?_⟩⟩
          · rw [R 28 _ (by omega) (by omega), lay4_o (by omega) (by omega), x3]
          · rw [R 191 _ (by omega) (by omega), Nat.add_zero, lay4_191]
          · rw [R _ _ (by omega) (by omega), lay4_o (by omega) (by omega), x5 k hk]
          · rw [R 192 _ (by omega) (by omega), Nat.add_zero, lay4_192 l2 hk]
        · have hu1 : u = 1 := by omega
          subst hu1
          rw [R 28 _ (by omega) (by omega), lay4_o (by omega) (by omega), x4 _ (by omega), hb 28 _ (by omega) (by omega) (by omega)]
          exact (a6.2 w hlt (Nat.le_refl _)).2.2
      · obtain ⟨v, v1, v2, v3, v4, v5, v6⟩ := a6.1 w (by omega)
        refine ⟨v, v1, v2, ?_, ?_, fun u hu => ?_, fun u hu hv => ?_⟩
        · rw [R 29 w (by omega) (by omega), lay4_o (by omega) (by omega), x2 w hwW, hb 29 w (by omega) (by omega) (by omega)]; exact v3
        · rw [ms_ne (by omega), ms_sl hwW, ms_ne (by omega), lay4_o (by omega) (by omega), x6 190 w (by omega) (by omega) (by omega), hb 190 w (by omega) (by omega) (by omega)]; exact v4
        · obtain ⟨ln2, y1, y2, y3, y4, y5⟩ := v5 u hu
          refine ⟨ln2, y1, y2, ?_, ?_, fun k hk => ?_⟩
          · rw [R 28 _ (by omega) (by omega), lay4_o (by omega) (by omega), x4 _ (by omega), hb 28 _ (by omega) (by omega) (by omega)]; exact y3
          · rw [R 191 _ (by omega) (by omega), lay4_191o (by omega), x6 191 _ (by omega) (by omega) (by omega), hb 191 _ (by omega) (by omega) (by omega)]; exact y4
          · obtain ⟨s0, y6, y7, y8⟩ := y5 k hk
            refine ⟨s0, y6, ?_, ?_⟩
            · rw [R _ _ (by omega) (by omega), lay4_o (by omega) (by omega), x6 _ _ (by omega) (by omega) (by omega), hb _ _ (by omega) (by omega) (by omega)]; exact y7
            · rw [R 192 _ (by omega) (by omega), lay4_192o (by omega), x6 192 _ (by omega) (by omega) (by omega), hb 192 _ (by omega) (by omega) (by omega)]; exact y8
        · rw [R 28 _ (by omega) (by omega), lay4_o (by omega) (by omega), x4 _ (by omega), hb 28 _ (by omega) (by omega) (by omega)]; exact v6 u hu hv
    · have R : ∀ o j, ¬ o = 187 → ¬ o = 190 → (mset (mset (mset (lay4 m1 (2 * W) ln s) 187 11 0) 190 W 1) 187 4 (nI (W + 1))) o j = lay4 m1 (2 * W) ln s o j := fun o j q1 q2 => by rw [ms_ne q1, ms_ne q2, ms_ne q1]
      obtain ⟨y1, y2, y3⟩ := a6.2 w hw (by omega)
      refine ⟨?_, ?_, ?_⟩
      · rw [R 29 w (by omega) (by omega), lay4_o (by omega) (by omega), x2 w (by omega), hb 29 w (by omega) (by omega) (by omega)]; exact y1
      · rw [R 28 _ (by omega) (by omega), lay4_o (by omega) (by omega), x4 _ (by omega), hb 28 _ (by omega) (by omega) (by omega)]; exact y2
      · rw [R 28 _ (by omega) (by omega), lay4_o (by omega) (by omega), x4 _ (by omega), hb 28 _ (by omega) (by omega) (by omega)]; exact y3
  · have hW8 : W = 8 := by omega
    subst hW8
    have lt : ¬ nI 8 < 8 := by decide
    refine ⟨_, C_X10_word l mem p1 p2 p3 p4 (fun _ q => absurd (by rw [w1] at q; exact q) lt), ?_⟩
    rintro x m1 ⟨rfl, rfl⟩
    have hM : M_X10_word mem p1 p2 p3 p4 = mem := by unfold M_X10_word; rw [w1, if_neg lt, ite_self]
    have hF : F_X10_word mem p1 p2 p3 p4 = -4 := by unfold F_X10_word; rw [if_neg c1, w1, if_neg lt]
    rw [hM, hF]
    have w2' : mem 187 4 = 8 := w2
    refine ⟨_, C_X11_word l _ p1 p2 p3 p4 (fun _ q => absurd w2' q), ?_⟩
    rintro y m2 ⟨rfl, rfl⟩
    unfold F_X11_word M_X11_word
    rw [if_neg cn, if_neg cn, if_pos w2', if_pos w2']
    exact ⟨rfl, INV_up _ _ h⟩
