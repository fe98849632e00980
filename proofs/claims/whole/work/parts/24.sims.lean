theorem S_say (l : Launch) (k : Nat) (mem : TMem) (h : INV k mem) (p1 : Int32) : SIM l i_X10_say 2 43 i_X11_say 2 43 [.inl p1] (INV (k + 1)) mem := by
  obtain ⟨n, W, T, a1, a2, a3, a4, a5, a6, a7, a8, a9, b1, b2, b3⟩ := id h
  obtain ⟨hW, w1, w2⟩ := id a5
  obtain ⟨hT, t1, t2, t3⟩ := id a8
  have r : (mset mem 108 5 0) 106 1 = nI T := by simp [mset, t1]
  have hg : G_X7_add_106 (mset mem 108 5 0) p1 := by
    unfold G_X7_add_106
    rw [r]
    intro hlt
    have : T < 12 := Nat.lt_of_not_le (fun q => hlt (nI_le q (by omega)))
    exact vp_in_nI this (by omega)
  refine ⟨_, C_X10_say l mem p1 (fun _ _ => hg), ?_⟩
  rintro x m1 ⟨rfl, rfl⟩
  by_cases c1 : F_X10_within p1 0 (nI W - 1) = 0
  · have hM : M_X10_say mem p1 = mem := by unfold M_X10_say; rw [w1, if_pos c1]
    have hF : F_X10_say mem p1 = -2 := by unfold F_X10_say; rw [w1, if_pos c1]
    rw [hM, hF]
    refine ⟨_, C_X11_say l _ p1 ?_, ?_⟩
    · unfold G_X11_say
      rw [w2, in_eq]
      exact fun q => absurd c1 q
    rintro y m2 ⟨rfl, rfl⟩
    unfold F_X11_say M_X11_say
    rw [w2, in_eq, if_pos c1, if_pos c1]
    exact ⟨rfl, INV_up _ _ h⟩
  · by_cases hlt : T < 12
    · have lt : nI T < 12 := (nI_ltI (b := 12) (by omega) (by omega)).mpr hlt
      have ma : M_X7_add_106 (mset mem 108 5 0) p1 = mset (mset (mset mem 108 5 0) 107 T p1) 106 1 (nI (T + 1)) := by
        unfold M_X7_add_106
        rw [r, if_neg (show ¬ (12 : Int32) ≤ nI T from nI_ge (b := 12) hlt (by omega)), nI_clamp (by omega), nI_1]
      have hM : M_X10_say mem p1 = mset (mset (mset mem 108 5 0) 107 T p1) 106 1 (nI (T + 1)) := by
        unfold M_X10_say
        rw [w1, if_neg c1, t1, if_pos lt, ma]
      have hF : F_X10_say mem p1 = nI (T + 1) := by
        unfold F_X10_say
        rw [w1, if_neg c1, t1, if_pos lt, ma, ms_eq]
      rw [hM, hF]
      have r2 : (mset (mset (mset mem 108 5 0) 107 T p1) 106 1 (nI (T + 1))) 187 9 = nI T := by simp [mset, t2]
      have r3 : (mset (mset (mset mem 108 5 0) 107 T p1) 106 1 (nI (T + 1))) 187 4 = nI W := by simp [mset, w2]
      have ne : ¬ nI T = 12 := fun q => by have := (nI_eq (b := 12) (by omega) (by omega)).mp q; omega
      refine ⟨_, C_X11_say l _ p1 ?_, ?_⟩
      · unfold G_X11_say
        rw [r2]
        exact fun _ _ => vp_in_nI hlt (by omega)
      rintro y m2 ⟨rfl, rfl⟩
      unfold F_X11_say M_X11_say
      rw [r2, r3, in_eq, if_neg c1, if_neg c1, if_neg ne, if_neg ne, nI_1, nI_clamp (by omega)]
      refine ⟨rfl, n, W, T + 1, (a1.of (by simp [mset, upd]) (by simp [mset, upd])), (a2.of (by simp [mset, upd]) (by simp [mset, upd])), (a3.of (by simp [mset, upd]) (fun s hs => by simp only [mset]; repeat rw [if_neg (by omega)])), (a4.of (by simp [mset, upd]) (by simp [mset, upd])), (a5.of (by simp [mset, upd]) (by simp [mset, upd])), (R_wy.of a5.1 a6 (by simp [mset, upd]) (by simp [mset, upd]) (by simp [mset, upd]) (by simp [mset, upd]) (by simp [mset, upd]) (fun s hs => by simp only [mset]; repeat rw [if_neg (by omega)])), (a7.of (by simp [mset, upd]) (fun s hs => by simp only [mset]; repeat rw [if_neg (by omega)])), ⟨by omega, by simp [mset, upd], by simp [mset, upd], ?_⟩, (R_la.no (by simp [mset, upd]) (by simp [mset, upd])), ((b1.of (by simp [mset, upd]) (by simp [mset, upd]) (by simp [mset, upd]) (by simp [mset, upd]) (by simp [mset, upd]) (by simp [mset, upd]) (fun s hs => by simp only [mset]; repeat rw [if_neg (by omega)]) (fun s hs => by simp only [mset]; repeat rw [if_neg (by omega)])).up (by omega)), (b2.of (by simp [mset, upd]) (by simp [mset, upd]) (by simp [mset, upd]) (by simp [mset, upd])), (b3.of (dat_of (by simp [mset, upd]) (by simp [mset, upd]) (by simp [mset, upd]) (by simp [mset, upd]) (fun s hs => by simp only [mset]; repeat rw [if_neg (by omega)]) (by simp [mset, upd]) (by simp [mset, upd]) (fun s hs => by simp only [mset]; repeat rw [if_neg (by omega)]) (fun s hs => by simp only [mset]; repeat rw [if_neg (by omega)])) (by simp [mset, upd]) (by simp [mset, upd]) (by simp [mset, upd]) (by simp [mset, upd]) (by simp [mset, upd]))⟩
      obtain ⟨w0, hw0, rfl⟩ := wi_word (by omega) c1
      intro i hi
      by_cases hiT : i = T
      · subst hiT
        exact ⟨w0, hw0, by simp [mset, upd], by simp [mset, upd]⟩
      · obtain ⟨w, q1, q2, q3⟩ := t3 i (by omega)
        exact ⟨w, q1, by simpa [mset, upd, hiT] using q2, by simpa [mset, upd, hiT] using q3⟩
    · have hT12 : T = 12 := by omega
      subst hT12
      have lt : ¬ nI 12 < 12 := by decide
      have hM : M_X10_say mem p1 = mem := by unfold M_X10_say; rw [t1, if_neg lt, ite_self]
      have hF : F_X10_say mem p1 = -4 := by unfold F_X10_say; rw [w1, if_neg c1, t1, if_neg lt]
      rw [hM, hF]
      have t2' : mem 187 9 = 12 := t2
      refine ⟨_, C_X11_say l _ p1 (fun _ q => absurd t2' q), ?_⟩
      rintro y m2 ⟨rfl, rfl⟩
      unfold F_X11_say M_X11_say
      rw [w2, in_eq, if_neg c1, if_neg c1, if_pos t2', if_pos t2']
      exact ⟨rfl, INV_up _ _ h⟩
theorem R_la.two {mem : TMem} {n : Nat} (h : R_la mem n) : mem 187 11 = mem 108 5 ∧ (mem 108 5 = 0 ∨ mem 108 5 = 1) := by
  rcases h with ⟨h1, h2⟩ | ⟨h1, h2, -⟩
  · exact ⟨h2.trans h1.symm, Or.inl h1⟩
  · exact ⟨h2.trans h1.symm, Or.inr h1⟩
theorem S_count (l : Launch) (k : Nat) (mem : TMem) (h : INV k mem) (p1 : Int32) : SIM l i_X10_count 1 20 i_X11_count 0 0 [.inl p1] (INV (k + 1)) mem := by
  obtain ⟨n, W, T, a1, a2, a3, a4, a5, a6, a7, a8, a9, b1, b2, b3⟩ := id h
  have hl := a9.two
  refine ⟨_, C_X10_count l mem p1 (fun _ _ _ _ _ => hl.2), ?_⟩
  rintro x m1 ⟨rfl, rfl⟩
  refine ⟨_, C_X11_count l _ p1, ?_⟩
  rintro y m2 ⟨rfl, rfl⟩
  refine ⟨?_, INV_up _ _ h⟩
  obtain ⟨K, nx, many, base, q1, q2, q3, q4, q5⟩ := b1
  unfold F_X10_count F_X11_count
  rw [a1.2.1, a1.2.2, a5.2.1, a5.2.2, a8.2.1, a8.2.2.1, q3, q4, hl.1]
theorem S_taught (l : Launch) (k : Nat) (mem : TMem) (h : INV k mem) (p1 p2 : Int32) : SIM l i_X10_taught 2 42 i_X11_taught 1 22 [.inl p1, .inl p2] (INV (k + 1)) mem := by
  by_cases c1 : F_X10_within p1 0 5 = 0
  · refine ⟨_, C_X10_taught l mem p1 p2 (fun q => absurd c1 q), ?_⟩
    rintro x m1 ⟨rfl, rfl⟩
    refine ⟨_, C_X11_taught l _ p1 p2 (fun q => absurd c1 q), ?_⟩
    rintro y m2 ⟨rfl, rfl⟩
    unfold F_X11_taught F_X10_taught
    rw [in_eq]
    simp only [if_pos c1]
    exact ⟨trivial, INV_up _ _ h⟩
  by_cases c2 : F_X10_within p2 0 7 = 0
  · refine ⟨_, C_X10_taught l mem p1 p2 (fun _ q => absurd c2 q), ?_⟩
    rintro x m1 ⟨rfl, rfl⟩
    refine ⟨_, C_X11_taught l _ p1 p2 (fun _ q => absurd c2 q), ?_⟩
    rintro y m2 ⟨rfl, rfl⟩
    unfold F_X11_taught F_X10_taught
    rw [in_eq]
    simp only [if_neg c1, if_pos c2]
    exact ⟨trivial, INV_up _ _ h⟩
  obtain ⟨s0, -, u1, rfl⟩ := wi_ok (a := 0) (b := 5) (by omega) (by omega) c1
  obtain ⟨j0, -, u2, rfl⟩ := wi_ok (a := 0) (b := 7) (by omega) (by omega) c2
  have v1 : vp_in (nI s0) 6 := vp_in_nI (by omega) (by omega)
  have v2 : vp_in (nI j0) 8 := vp_in_nI (by omega) (by omega)
  have e8 : (8 : Int32) * nI s0 + nI j0 = nI (8 * s0 + j0) := by rw [show (8 : Int32) = nI 8 from rfl, pk_mul, nI_add]
  refine ⟨_, C_X10_taught l mem _ _ (fun _ _ => ⟨v1, v2⟩), ?_⟩
  rintro x m1 ⟨rfl, rfl⟩
  refine ⟨_, C_X11_taught l _ _ _ (fun _ _ => by rw [e8]; exact vp_in_nI (by omega) (by omega)), ?_⟩
  rintro y m2 ⟨rfl, rfl⟩
  unfold F_X11_taught F_X10_taught
  rw [in_eq]
  simp only [if_neg c1, if_neg c2, e8, nI_clamp (show s0 < 2 ^ 31 by omega), nI_clamp (show j0 < 2 ^ 31 by omega), nI_clamp (show 8 * s0 + j0 < 2 ^ 31 by omega)]
  refine ⟨?_, INV_up _ _ h⟩
  obtain ⟨n, W, T, a1, a2, a3, a4, a5, a6, a7, a8, a9, b1, b2, b3⟩ := h
  obtain ⟨K, nx, many, base, q1, q2, q3, q4, q5, q6, q7, q8⟩ := b1
  exact (q7 s0 j0 (by omega) (by omega)).1.symm
theorem S_laid (l : Launch) (k : Nat) (mem : TMem) (h : INV k mem) (p1 p2 : Int32) : SIM l i_X10_laid 1 22 i_X11_laid 1 22 [.inl p1, .inl p2] (INV (k + 1)) mem := by
  obtain ⟨n, W, T, a1, a2, a3, a4, a5, a6, a7, a8, a9, b1, b2, b3⟩ := id h
  obtain ⟨hn, e1, e2⟩ := a1
  have hl := a9.two
  by_cases c1 : F_X10_within p1 0 (nI n - 1) = 0
  · refine ⟨_, C_X10_laid l mem p1 p2 (by unfold G_X10_laid; rw [e1]; exact fun q => absurd c1 q), ?_⟩
    rintro x m1 ⟨rfl, rfl⟩
    refine ⟨_, C_X11_laid l _ p1 p2 (by unfold G_X11_laid; rw [e2]; exact fun q => absurd c1 q), ?_⟩
    rintro y m2 ⟨rfl, rfl⟩
    unfold F_X11_laid F_X10_laid
    rw [e1, e2, in_eq, if_pos c1, if_pos c1]
    exact ⟨rfl, INV_up _ _ h⟩
  by_cases c2 : F_X10_within p2 0 2 = 0
  · refine ⟨_, C_X10_laid l mem p1 p2 (fun _ q => absurd c2 q), ?_⟩
    rintro x m1 ⟨rfl, rfl⟩
    refine ⟨_, C_X11_laid l _ p1 p2 (fun _ q => absurd c2 q), ?_⟩
    rintro y m2 ⟨rfl, rfl⟩
    unfold F_X11_laid F_X10_laid
    rw [e1, e2, in_eq, if_neg c1, if_neg c1, if_pos c2, if_pos c2]
    exact ⟨rfl, INV_up _ _ h⟩
  obtain ⟨f, hf, rfl⟩ := wi_word (by omega) c1
  have vf : vp_in (nI f) 40 := vp_in_nI (by omega) (by omega)
  have ef : (nI f).toNatClampNeg = f := nI_clamp (by omega)
  rcases a9 with ⟨h1, h2⟩ | ⟨h1, h2, h3⟩
  · refine ⟨_, C_X10_laid l mem (nI f) p2 (fun _ _ => ⟨hl.2, fun q => absurd h1 q⟩), ?_⟩
    rintro x m1 ⟨rfl, rfl⟩
    refine ⟨_, C_X11_laid l _ (nI f) p2 (fun _ _ q => absurd h2 q), ?_⟩
    rintro y m2 ⟨rfl, rfl⟩
    unfold F_X11_laid F_X10_laid
    rw [e1, e2, in_eq, if_neg c1, if_neg c1, if_neg c2, if_neg c2, if_pos h1, if_pos h2]
    exact ⟨rfl, INV_up _ _ h⟩
  · obtain ⟨sl, s, u1, u2, u3, u4, u5, u6, u7⟩ := h3 f hf
    have n1 : ¬ mem 108 5 = 0 := by rw [h1]; decide
    have n2 : ¬ mem 187 11 = 0 := by rw [h2]; decide
    refine ⟨_, C_X10_laid l mem (nI f) p2 (fun _ _ => ⟨hl.2, fun _ => ⟨fun _ => ⟨vf, by rw [ef, u3]; exact vp_in_nI u1 (by omega)⟩, fun _ => ⟨fun _ => vf, fun _ => vf⟩⟩⟩), ?_⟩
    rintro x m1 ⟨rfl, rfl⟩
    refine ⟨_, C_X11_laid l _ (nI f) p2 (fun _ _ _ => ⟨fun _ => vf, fun _ => ⟨fun _ => vf, fun _ => vf⟩⟩), ?_⟩
    rintro y m2 ⟨rfl, rfl⟩
    unfold F_X11_laid F_X10_laid
    rw [e1, e2, in_eq, if_neg c1, if_neg c1, if_neg c2, if_neg c2, if_neg n1, if_neg n2, ef, u3, nI_clamp (by omega), u4, u5, u6, u7]
    have d8 : nI sl / 8 = nI (sl / 8) := pk_div (d := 8) (by omega) (by omega) (by omega)
    have r8 : nI sl - nI sl / 8 * 8 = nI (sl % 8) := pk_rem (d := 8) (by omega) (by omega) (by omega)
    have d4 : nI (sl % 8) / 4 = nI (sl % 8 / 4) := pk_div (d := 4) (by omega) (by omega) (by omega)
    rw [r8, d8, d4]
    exact ⟨rfl, INV_up _ _ h⟩
