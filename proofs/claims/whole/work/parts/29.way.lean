theorem S_way (l : Launch) (k : Nat) (mem : TMem) (h : INV k mem) (p0 p1 p2 p3 p4 : Int32) : SIM l i_X10_way 4 86 i_X11_way 2 46 [.inl p0, .inl p1, .inl p2, .inl p3, .inl p4] (INV (k + 1)) mem := by
  obtain ⟨n, W, T, a1, a2, a3, a4, a5, a6, a7, a8, a9, b1, b2, b3⟩ := id h
  obtain ⟨hW, w1, w2⟩ := id a5
  by_cases c0 : F_X10_within p0 0 (nI W - 1) = 0
  · refine ⟨_, C_X10_way l mem p0 p1 p2 p3 p4 (by unfold G_X10_way; rw [w1]; exact fun q => absurd c0 q), ?_⟩
    rintro x m1 ⟨rfl, rfl⟩
    have hM : M_X10_way mem p0 p1 p2 p3 p4 = mem := by unfold M_X10_way; rw [w1, if_pos c0]
    have hF : F_X10_way mem p0 p1 p2 p3 p4 = -2 := by unfold F_X10_way; rw [w1, if_pos c0]
    rw [hM, hF]
    refine ⟨_, C_X11_way l _ p0 p1 p2 p3 p4 (by unfold G_X11_way; rw [w2]; exact fun q => absurd c0 q), ?_⟩
    rintro y m2 ⟨rfl, rfl⟩
    unfold F_X11_way M_X11_way
    rw [w2, in_eq, if_pos c0, if_pos c0]
    exact ⟨rfl, INV_up _ _ h⟩
  rcases so_cases p1 p2 p3 p4 with ⟨c1, c2⟩ | ⟨ln, s, l1, l2, hs, e1, e2, e3, e4, c1, c2⟩
  · refine ⟨_, C_X10_way l mem p0 p1 p2 p3 p4 (fun _ q => absurd c1 q), ?_⟩
    rintro x m1 ⟨rfl, rfl⟩
    have hM : M_X10_way mem p0 p1 p2 p3 p4 = mem := by unfold M_X10_way; rw [if_pos c1, ite_self]
    have hF : F_X10_way mem p0 p1 p2 p3 p4 = -2 := by unfold F_X10_way; rw [if_pos c1, ite_self]
    rw [hM, hF]
    refine ⟨_, C_X11_way l _ p0 p1 p2 p3 p4 (fun _ q => absurd c2 q), ?_⟩
    rintro y m2 ⟨rfl, rfl⟩
    unfold F_X11_way M_X11_way
    rw [if_pos c2, if_pos c2, ite_self, ite_self]
    exact ⟨rfl, INV_up _ _ h⟩
  have cn : ¬ F_X11_manyOf p1 p2 p3 p4 = -1 := by
    rw [c2]
    intro q
    have := congrArg Int32.toInt q
    rw [nI_toInt (by omega)] at this
    have e : (-1 : Int32).toInt = -1 := by decide
    omega
  obtain ⟨w, hw, rfl⟩ := wi_word (by omega) c0
  obtain ⟨v, v1, v2, v3, v4, v5, v6⟩ := a6.1 w hw
  have ew : (nI w).toNatClampNeg = w := nI_clamp (by omega)
  by_cases hv : v < 2
  · have hv1 : v = 1 := by omega
    subst hv1
    have lt : nI 1 < 2 := by decide
    generalize hmbe : mset (mset mem 40 6 0) 108 5 0 = mb
    have hb : ∀ o j, ¬ o = 40 → ¬ o = 108 → mb o j = mem o j := fun o j q1 q2 => by rw [← hmbe, ms_ne q2, ms_ne q1]
    obtain ⟨gA, hA⟩ := addWay_ok (mem := mb) (w := w) (u := 1) l1 l2 (by omega) (by omega) hs (by rw [hb 29 w (by omega) (by omega)]; exact v3) (by rw [hb 28 _ (by omega) (by omega)]; exact v6 1 (by omega) (by omega))
    rw [← e1, ← e2, ← e3, ← e4] at gA
    refine ⟨_, C_X10_way l mem (nI w) p1 p2 p3 p4 (fun _ _ => ⟨vp_in_nI (by omega) (by omega), fun _ => by rw [hmbe]; exact gA⟩), ?_⟩
    rintro x m1 ⟨rfl, rfl⟩
    have hF : F_X10_way mem (nI w) p1 p2 p3 p4 = 1 := by unfold F_X10_way; rw [w1, if_neg c0, if_neg c1, ew, v3, if_pos lt]
    have hM : M_X10_way mem (nI w) p1 p2 p3 p4 = M_X5_addWay mb (nI w) (qf ln s 0) (qf ln s 1) (qf ln s 2) (qf ln s 3) := by unfold M_X10_way; rw [w1, if_neg c0, if_neg c1, ew, v3, if_pos lt, hmbe, ← e1, ← e2, ← e3, ← e4]
    rw [hF]
    obtain ⟨x1, x2, x3, x4, x5, x6⟩ := hA _ hM
    generalize M_X10_way mem (nI w) p1 p2 p3 p4 = m1 at x1 x2 x3 x4 x5 x6
    have r4 : m1 187 4 = nI W := by rw [x6 187 4 (by omega) (by omega) (by omega), hb 187 4 (by omega) (by omega)]; exact w2
    have r90 : m1 190 w = nI 1 := by rw [x6 190 w (by omega) (by omega) (by omega), hb 190 w (by omega) (by omega)]; exact v4
    have ne2 : ¬ nI 1 = 2 := by decide
    have e2W : (2 : Int32) * nI w + 1 = nI (2 * w + 1) := by rw [show (2 : Int32) = nI 2 from rfl, pk_mul, nI_1]
    have e8W : (4 : Int32) * nI (2 * w + 1) = nI (4 * (2 * w + 1)) := by rw [show (4 : Int32) = nI 4 from rfl, pk_mul]
    refine ⟨_, C_X11_way l m1 (nI w) p1 p2 p3 p4 ?_, ?_⟩
    · unfold G_X11_way
      rw [e2W]
      exact fun _ _ => ⟨vp_in_nI (by omega) (by omega), fun _ => layG (by omega) _ _ _ _ _⟩
    rintro y m2 ⟨rfl, rfl⟩
    have hM2 : M_X11_way m1 (nI w) p1 p2 p3 p4 = mset (mset (lay4 m1 (2 * w + 1) ln s) 187 11 0) 190 w 2 := by
      unfold M_X11_way lay4
      rw [r4, in_eq, if_neg c0, if_neg cn, ew, r90, if_neg ne2, e2W, e8W, show nI (4 * (2 * w + 1)) + 1 = nI (4 * (2 * w + 1) + 1) from nI_add _ 1, show nI (4 * (2 * w + 1)) + 2 = nI (4 * (2 * w + 1) + 2) from nI_add _ 2, show nI (4 * (2 * w + 1)) + 3 = nI (4 * (2 * w + 1) + 3) from nI_add _ 3, nI_clamp (by omega), nI_clamp (by omega), nI_clamp (by omega), nI_clamp (by omega), nI_clamp (by omega), c2, ← e1, ← e2, ← e3, ← e4]
    have hF2 : F_X11_way m1 (nI w) p1 p2 p3 p4 = 1 := by
      unfold F_X11_way
      rw [r4, in_eq, if_neg c0, if_neg cn, ew, r90, if_neg ne2]
    rw [hM2, hF2]
    have R : ∀ o j, ¬ o = 187 → ¬ o = 190 → (mset (mset (lay4 m1 (2 * w + 1) ln s) 187 11 0) 190 w 2) o j = lay4 m1 (2 * w + 1) ln s o j := fun o j q1 q2 => by rw [ms_ne q2, ms_ne q1]
    refine ⟨rfl, inv_words (at_ := 2 * w + 1) (W2 := W) (by omega) a1 a2 a3 a4 a7 a8 b1 b2 (by omega) ?_ ?_ ?_ ?_ ?_ ⟨hW, ?_, ?_⟩ ⟨fun w' hw' => ?_, fun w' hw' hw2 => ?_⟩⟩
    · intro o j q1 q2 q3 q4 q5 q6 q7 q8 q9 q10
      rw [R o j q9 q10, lay4_o q7 q8, x6 o j q1 q2 q3, hb o j q4 q5]
    · intro j q1 q2
      rw [ms_ne (by omega), ms_sl q1, lay4_o (by omega) (by omega), x6 187 j (by omega) (by omega) (by omega), hb 187 j (by omega) (by omega)]
    · rw [R 108 5 (by omega) (by omega), lay4_o (by omega) (by omega), x6 108 5 (by omega) (by omega) (by omega), ← hmbe, ms_eq]
    · rw [ms_ne (by omega), ms_eq]
    · rw [R 40 6 (by omega) (by omega), lay4_o (by omega) (by omega), x6 40 6 (by omega) (by omega) (by omega), ← hmbe, ms_ne (by omega), ms_eq]
    · rw [R 10 4 (by omega) (by omega), lay4_o (by omega) (by omega), x6 10 4 (by omega) (by omega) (by omega), hb 10 4 (by omega) (by omega)]; exact w1
    · rw [ms_ne (by omega), ms_sl (by omega), lay4_o (by omega) (by omega)]; exact r4
    · by_cases hww : w' = w
      · subst hww
        refine ⟨2, by omega, by omega, ?_, ?_, fun u hu => ?_, fun u hu hv => by omega⟩
        · rw [R 29 w' (by omega) (by omega), lay4_o (by omega) (by omega), x1]
        · rw [ms_eq]; rfl
        · by_cases hu1 : u = 1
          · subst hu1
            refine ⟨ln, l1, l2, ?_, ?_, fun k hk => ⟨s k, hs k hk, ?_, ?_⟩⟩
            · rw [R 28 _ (by omega) (by omega), lay4_o (by omega) (by omega), x3]
            · rw [R 191 _ (by omega) (by omega), lay4_191]
            · rw [R _ _ (by omega) (by omega), lay4_o (by omega) (by omega), x5 k hk]
            · rw [R 192 _ (by omega) (by omega), lay4_192 l2 hk]
          · obtain ⟨ln2, y1, y2, y3, y4, y5⟩ := v5 u (by omega)
            refine ⟨ln2, y1, y2, ?_, ?_, fun k hk => ?_⟩
            · rw [R 28 _ (by omega) (by omega), lay4_o (by omega) (by omega), x4 _ (by omega), hb 28 _ (by omega) (by omega)]; exact y3
            · rw [R 191 _ (by omega) (by omega), lay4_191o (by omega), x6 191 _ (by omega) (by omega) (by omega), hb 191 _ (by omega) (by omega)]; exact y4
            · obtain ⟨s0, y6, y7, y8⟩ := y5 k hk
              refine ⟨s0, y6, ?_, ?_⟩
              · rw [R _ _ (by omega) (by omega), lay4_o (by omega) (by omega), x6 _ _ (by omega) (by omega) (by omega), hb _ _ (by omega) (by omega)]; exact y7
              · rw [R 192 _ (by omega) (by omega), lay4_192o (by omega), x6 192 _ (by omega) (by omega) (by omega), hb 192 _ (by omega) (by omega)]; exact y8
      · obtain ⟨v', z1, z2, z3, z4, z5, z6⟩ := a6.1 w' hw'
        refine ⟨v', z1, z2, ?_, ?_, fun u hu => ?_, fun u hu hv => ?_⟩
        · rw [R 29 w' (by omega) (by omega), lay4_o (by omega) (by omega), x2 w' hww, hb 29 w' (by omega) (by omega)]; exact z3
        · rw [ms_sl hww, ms_ne (by omega), lay4_o (by omega) (by omega), x6 190 w' (by omega) (by omega) (by omega), hb 190 w' (by omega) (by omega)]; exact z4
        · obtain ⟨ln2, y1, y2, y3, y4, y5⟩ := z5 u hu
          refine ⟨ln2, y1, y2, ?_, ?_, fun k hk => ?_⟩
          · rw [R 28 _ (by omega) (by omega), lay4_o (by omega) (by omega), x4 _ (by omega), hb 28 _ (by omega) (by omega)]; exact y3
          · rw [R 191 _ (by omega) (by omega), lay4_191o (by omega), x6 191 _ (by omega) (by omega) (by omega), hb 191 _ (by omega) (by omega)]; exact y4
          · obtain ⟨s0, y6, y7, y8⟩ := y5 k hk
            refine ⟨s0, y6, ?_, ?_⟩
            · rw [R _ _ (by omega) (by omega), lay4_o (by omega) (by omega), x6 _ _ (by omega) (by omega) (by omega), hb _ _ (by omega) (by omega)]; exact y7
            · rw [R 192 _ (by omega) (by omega), lay4_192o (by omega), x6 192 _ (by omega) (by omega) (by omega), hb 192 _ (by omega) (by omega)]; exact y8
        · rw [R 28 _ (by omega) (by omega), lay4_o (by omega) (by omega), x4 _ (by omega), hb 28 _ (by omega) (by omega)]; exact z6 u hu hv
    · obtain ⟨y1, y2, y3⟩ := a6.2 w' hw' hw2
      refine ⟨?_, ?_, ?_⟩
      · rw [R 29 w' (by omega) (by omega), lay4_o (by omega) (by omega), x2 w' (by omega), hb 29 w' (by omega) (by omega)]; exact y1
      · rw [R 28 _ (by omega) (by omega), lay4_o (by omega) (by omega), x4 _ (by omega), hb 28 _ (by omega) (by omega)]; exact y2
      · rw [R 28 _ (by omega) (by omega), lay4_o (by omega) (by omega), x4 _ (by omega), hb 28 _ (by omega) (by omega)]; exact y3
  · have hv2 : v = 2 := by omega
    subst hv2
    have lt : ¬ nI 2 < 2 := by decide
    refine ⟨_, C_X10_way l mem (nI w) p1 p2 p3 p4 (fun _ _ => ⟨vp_in_nI (by omega) (by omega), fun q => absurd (by rw [ew, v3] at q; exact q) lt⟩), ?_⟩
    rintro x m1 ⟨rfl, rfl⟩
    have hM : M_X10_way mem (nI w) p1 p2 p3 p4 = mem := by unfold M_X10_way; rw [ew, v3, if_neg lt, ite_self, ite_self]
    have hF : F_X10_way mem (nI w) p1 p2 p3 p4 = -4 := by unfold F_X10_way; rw [w1, if_neg c0, if_neg c1, ew, v3, if_neg lt]
    rw [hM, hF]
    have v4' : mem 190 w = 2 := v4
    refine ⟨_, C_X11_way l _ (nI w) p1 p2 p3 p4 (fun _ _ => ⟨vp_in_nI (by omega) (by omega), fun q => absurd (by rw [ew]; exact v4') q⟩), ?_⟩
    rintro y m2 ⟨rfl, rfl⟩
    unfold F_X11_way M_X11_way
    rw [w2, in_eq, if_neg c0, if_neg c0, if_neg cn, if_neg cn, ew, if_pos v4', if_pos v4']
    exact ⟨rfl, INV_up _ _ h⟩
