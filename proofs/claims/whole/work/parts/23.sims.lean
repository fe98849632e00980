theorem wi_m1 {p b : Int32} (h : ¬ p = -1) : F_X10_within p (-1) b = F_X10_within p 0 b := by
  unfold F_X10_within
  have e : (p < -1) ↔ (p < 0) := by
    rw [Int32.lt_iff_toInt_lt, Int32.lt_iff_toInt_lt]
    have h0 : (0 : Int32).toInt = 0 := by decide
    have h1 : (-1 : Int32).toInt = -1 := by decide
    have h2 : p.toInt ≠ -1 := fun e => h (Int32.toInt_inj.mp (by rw [e, h1]))
    omega
  by_cases c : p < 0
  · rw [if_pos c, if_pos (e.mpr c)]
  · rw [if_neg c, if_neg (fun x => c (e.mp x))]
theorem S_feed (l : Launch) (k : Nat) (mem : TMem) (h : INV k mem) (p1 : Int32) : SIM l i_X10_feed 2 42 i_X11_feed 1 22 [.inl p1] (INV (k + 1)) mem := by
  obtain ⟨n, W, T, a1, a2, a3, a4, a5, a6, a7, a8, a9, b1, b2, b3⟩ := id h
  obtain ⟨hn, e1, e2⟩ := id a1
  have r : (mset (mset mem 40 6 0) 108 5 0) 1 2 = nI n := by simp [mset, e1]
  have hg : G_X2_add (mset (mset mem 40 6 0) 108 5 0) p1 := by
    unfold G_X2_add
    rw [r]
    intro hlt
    have : n < 40 := Nat.lt_of_not_le (fun q => hlt (nI_le q (by omega)))
    exact vp_in_nI this (by omega)
  have hG : G_X10_feed mem p1 := by
    unfold G_X10_feed
    exact ⟨fun _ _ => hg, fun _ _ _ => hg⟩
  refine ⟨_, C_X10_feed l mem p1 hG, ?_⟩
  rintro x m1 ⟨rfl, rfl⟩
  have hv0 : (p1 = -1 ∨ ¬ F_X10_within p1 0 7 = 0) ∨ (¬ p1 = -1 ∧ F_X10_within p1 0 7 = 0) := by
    by_cases c1 : p1 = -1
    · exact Or.inl (Or.inl c1)
    · by_cases c2 : F_X10_within p1 0 7 = 0
      · exact Or.inr ⟨c1, c2⟩
      · exact Or.inl (Or.inr c2)
  rcases hv0 with hv | ⟨c1, c2⟩
  · have hin : ¬ F_X10_within p1 (-1) 7 = 0 := by
      rcases hv with rfl | hv
      · decide
      · by_cases c1 : p1 = -1
        · subst c1; decide
        · rw [wi_m1 c1]; exact hv
    by_cases hlt : n < 40
    · have lt : nI n < 40 := (nI_ltI (b := 40) (by omega) (by omega)).mpr hlt
      have ma : M_X2_add (mset (mset mem 40 6 0) 108 5 0) p1 = mset (mset (mset (mset mem 40 6 0) 108 5 0) 2 n p1) 1 2 (nI (n + 1)) := by
        unfold M_X2_add
        rw [r, if_neg (show ¬ (40 : Int32) ≤ nI n from nI_ge (b := 40) hlt (by omega)), nI_clamp (by omega), nI_1]
      have hM : M_X10_feed mem p1 = mset (mset (mset (mset mem 40 6 0) 108 5 0) 2 n p1) 1 2 (nI (n + 1)) := by
        unfold M_X10_feed
        rw [ma, e1]
        rcases hv with hv | hv
        · rw [if_pos hv, if_pos lt]
        · rw [if_neg hv, if_pos lt, ite_self]
      have hF : F_X10_feed mem p1 = nI (n + 1) := by
        unfold F_X10_feed
        rw [ma, e1, ms_eq]
        rcases hv with hv | hv
        · rw [if_pos hv, if_pos lt]
        · rw [if_neg hv, if_pos lt, ite_self]
      rw [hM, hF]
      have r2 : (mset (mset (mset (mset mem 40 6 0) 108 5 0) 2 n p1) 1 2 (nI (n + 1))) 187 0 = nI n := by simp [mset, e2]
      have ne : ¬ nI n = 40 := fun q => by have := (nI_eq (b := 40) (by omega) (by omega)).mp q; omega
      refine ⟨_, C_X11_feed l _ p1 ?_, ?_⟩
      · unfold G_X11_feed
        rw [r2]
        exact fun _ _ => vp_in_nI hlt (by omega)
      rintro y m2 ⟨rfl, rfl⟩
      unfold F_X11_feed M_X11_feed
      rw [r2, in_eq, if_neg hin, if_neg hin, if_neg ne, if_neg ne, nI_1, nI_clamp (by omega)]
      refine ⟨rfl, n + 1, W, T, ⟨by omega, by simp [mset, upd], by simp [mset, upd]⟩, ?_, (a3.of (by simp [mset, upd]) (fun s hs => by simp only [mset]; repeat rw [if_neg (by omega)])), (a4.of (by simp [mset, upd]) (by simp [mset, upd])), (a5.of (by simp [mset, upd]) (by simp [mset, upd])), (R_wy.of a5.1 a6 (by simp [mset, upd]) (by simp [mset, upd]) (by simp [mset, upd]) (by simp [mset, upd]) (by simp [mset, upd]) (fun s hs => by simp only [mset]; repeat rw [if_neg (by omega)])), (a7.of (by simp [mset, upd]) (fun s hs => by simp only [mset]; repeat rw [if_neg (by omega)])), (a8.of (by simp [mset, upd]) (by simp [mset, upd]) (by simp [mset, upd]) (by simp [mset, upd])), (R_la.no (by simp [mset, upd]) (by simp [mset, upd])), ((b1.of (by simp [mset, upd]) (by simp [mset, upd]) (by simp [mset, upd]) (by simp [mset, upd]) (by simp [mset, upd]) (by simp [mset, upd]) (fun s hs => by simp only [mset]; repeat rw [if_neg (by omega)]) (fun s hs => by simp only [mset]; repeat rw [if_neg (by omega)])).up (by omega)), (b2.of (by simp [mset, upd]) (by simp [mset, upd]) (by simp [mset, upd]) (by simp [mset, upd])), (R_ca.no (by simp [mset, upd]))⟩
      intro f hf
      by_cases hfn : f = n
      · subst hfn
        refine ⟨by simp [mset, upd], ?_⟩
        have : (mset (mset (mset (mset (mset (mset (mset mem 40 6 0) 108 5 0) 2 f p1) 1 2 (nI (f + 1))) 188 f p1) 187 0 (nI (f + 1))) 187 11 0) 2 f = p1 := by simp [mset, upd]
        rw [this]
        rcases hv with hv | hv
        · exact Or.inl hv
        · obtain ⟨j, u1, u2, rfl⟩ := wi_ok (a := 0) (b := 7) (by omega) (by omega) hv
          exact Or.inr ⟨j, by omega, rfl⟩
      · have := a2 f (by omega)
        simpa [mset, upd, hfn] using this
    · have hn40 : n = 40 := by omega
      subst hn40
      have lt : ¬ nI 40 < 40 := by decide
      have hM : M_X10_feed mem p1 = mem := by
        unfold M_X10_feed
        rw [e1, if_neg lt, ite_self, ite_self]
      have hF : F_X10_feed mem p1 = -4 := by
        unfold F_X10_feed
        rw [e1, if_neg lt]
        rcases hv with hv | hv
        · rw [if_pos hv]
        · rw [if_neg hv, ite_self]
      rw [hM, hF]
      have e2' : mem 187 0 = 40 := e2
      refine ⟨_, C_X11_feed l _ p1 ?_, ?_⟩
      · unfold G_X11_feed
        exact fun _ q => absurd e2' q
      rintro y m2 ⟨rfl, rfl⟩
      unfold F_X11_feed M_X11_feed
      rw [in_eq, if_neg hin, if_neg hin, if_pos e2', if_pos e2']
      exact ⟨rfl, INV_up _ _ h⟩
  · have hin : F_X10_within p1 (-1) 7 = 0 := by rw [wi_m1 c1]; exact c2
    have hM : M_X10_feed mem p1 = mem := by
      unfold M_X10_feed
      rw [if_neg c1, if_pos c2]
    have hF : F_X10_feed mem p1 = -2 := by
      unfold F_X10_feed
      rw [if_neg c1, if_pos c2]
    rw [hM, hF]
    refine ⟨_, C_X11_feed l _ p1 ?_, ?_⟩
    · unfold G_X11_feed
      rw [in_eq]
      exact fun q => absurd hin q
    rintro y m2 ⟨rfl, rfl⟩
    unfold F_X11_feed M_X11_feed
    rw [in_eq, if_pos hin, if_pos hin]
    exact ⟨rfl, INV_up _ _ h⟩
theorem S_cost (l : Launch) (k : Nat) (mem : TMem) (h : INV k mem) (p1 p2 p3 : Int32) : SIM l i_X10_cost 2 42 i_X11_cost 1 22 [.inl p1, .inl p2, .inl p3] (INV (k + 1)) mem := by
  by_cases c1 : F_X10_within p1 0 5 = 0
  · refine ⟨_, C_X10_cost l mem p1 p2 p3 (fun q => absurd c1 q), ?_⟩
    rintro x m1 ⟨rfl, rfl⟩
    refine ⟨_, C_X11_cost l _ p1 p2 p3 (fun q => absurd c1 q), ?_⟩
    rintro y m2 ⟨rfl, rfl⟩
    unfold F_X11_cost F_X10_cost M_X11_cost M_X10_cost
    rw [in_eq]
    simp only [if_pos c1]
    exact ⟨trivial, INV_up _ _ h⟩
  by_cases c2 : F_X10_within p2 0 7 = 0
  · refine ⟨_, C_X10_cost l mem p1 p2 p3 (fun _ q => absurd c2 q), ?_⟩
    rintro x m1 ⟨rfl, rfl⟩
    refine ⟨_, C_X11_cost l _ p1 p2 p3 (fun _ q => absurd c2 q), ?_⟩
    rintro y m2 ⟨rfl, rfl⟩
    unfold F_X11_cost F_X10_cost M_X11_cost M_X10_cost
    rw [in_eq]
    simp only [if_neg c1, if_pos c2]
    exact ⟨trivial, INV_up _ _ h⟩
  by_cases c3 : F_X10_within p3 0 50 = 0
  · refine ⟨_, C_X10_cost l mem p1 p2 p3 (fun _ _ q => absurd c3 q), ?_⟩
    rintro x m1 ⟨rfl, rfl⟩
    refine ⟨_, C_X11_cost l _ p1 p2 p3 (fun _ _ q => absurd c3 q), ?_⟩
    rintro y m2 ⟨rfl, rfl⟩
    unfold F_X11_cost F_X10_cost M_X11_cost M_X10_cost
    rw [in_eq]
    simp only [if_neg c1, if_neg c2, if_pos c3]
    exact ⟨trivial, INV_up _ _ h⟩
  obtain ⟨s0, -, u1, rfl⟩ := wi_ok (a := 0) (b := 5) (by omega) (by omega) c1
  obtain ⟨j0, -, u2, rfl⟩ := wi_ok (a := 0) (b := 7) (by omega) (by omega) c2
  obtain ⟨v0, -, u3, rfl⟩ := wi_ok (a := 0) (b := 50) (by omega) (by omega) c3
  have v1 : vp_in (nI s0) 6 := vp_in_nI (by omega) (by omega)
  have v2 : vp_in (nI j0) 8 := vp_in_nI (by omega) (by omega)
  have e8 : (8 : Int32) * nI s0 + nI j0 = nI (8 * s0 + j0) := by rw [show (8 : Int32) = nI 8 from rfl, pk_mul, nI_add]
  refine ⟨_, C_X10_cost l mem _ _ _ (fun _ _ _ => ⟨⟨v1, v2⟩, ⟨v1, v2⟩⟩), ?_⟩
  rintro x m1 ⟨rfl, rfl⟩
  refine ⟨_, C_X11_cost l _ _ _ _ (fun _ _ _ => by rw [e8]; exact vp_in_nI (by omega) (by omega)), ?_⟩
  rintro y m2 ⟨rfl, rfl⟩
  unfold F_X11_cost F_X10_cost M_X11_cost M_X10_cost
  rw [in_eq]
  simp only [if_neg c1, if_neg c2, if_neg c3, e8, nI_clamp (show s0 < 2 ^ 31 by omega), nI_clamp (show j0 < 2 ^ 31 by omega), nI_clamp (show 8 * s0 + j0 < 2 ^ 31 by omega)]
  obtain ⟨n, W, T, a1, a2, a3, a4, a5, a6, a7, a8, a9, b1, b2, b3⟩ := h
  have hne : ∀ q, 100 ≤ q → ¬ q = 4 + s0 := fun q hq => by omega
  refine ⟨?_, n, W, T, ?_, ?_, ?_, ?_, ?_, ?_, ?_, ?_, R_la.no ?_ ?_, ?_, ?_, R_ca.no ?_⟩
  · rw [ms_ne (by omega), ms_ne (by omega), ms_ne (by omega)]
    exact (a3 s0 j0 (by omega) (by omega)).1.symm
  · refine a1.of ?_ ?_
    · rw [ms_ne (by omega), ms_ne (by omega), ms_ne (by omega), ms_ne (by omega), ms_ne (by omega)]
    · rw [ms_sl (by omega), ms_ne (by omega), ms_ne (by omega), ms_ne (by omega), ms_ne (by omega)]
  · refine a2.of ?_ ?_ <;> simp only [mset] <;> repeat rw [if_neg (by omega)]
  · intro s j hs hj
    obtain ⟨q1, c, q2, q3⟩ := a3 s j hs hj
    by_cases hsj : s = s0 ∧ j = j0
    · obtain ⟨rfl, rfl⟩ := hsj
      have r1 : (mset (mset (mset (mset (mset mem 40 6 0) 108 5 0) (4 + s) j (nI v0)) 189 (8 * s + j) (nI v0)) 187 11 0) 189 (8 * s + j) = nI v0 := by rw [ms_ne (by omega), ms_eq]
      have r2 : (mset (mset (mset (mset (mset mem 40 6 0) 108 5 0) (4 + s) j (nI v0)) 189 (8 * s + j) (nI v0)) 187 11 0) (4 + s) j = nI v0 := by rw [ms_ne (by omega), ms_ne (by omega), ms_eq]
      rw [r1, r2]
      exact ⟨rfl, v0, u3, rfl⟩
    · have r1 : (mset (mset (mset (mset (mset mem 40 6 0) 108 5 0) (4 + s0) j0 (nI v0)) 189 (8 * s0 + j0) (nI v0)) 187 11 0) 189 (8 * s + j) = mem 189 (8 * s + j) := by
        rw [ms_ne (by omega), ms_sl (by omega), ms_ne (by omega), ms_ne (by omega), ms_ne (by omega)]
      have r2 : (mset (mset (mset (mset (mset mem 40 6 0) 108 5 0) (4 + s0) j0 (nI v0)) 189 (8 * s0 + j0) (nI v0)) 187 11 0) (4 + s) j = mem (4 + s) j := by
        rw [ms_ne (by omega), ms_ne (by omega)]
        by_cases hs0 : s = s0
        · subst hs0
          rw [ms_sl (by omega), ms_ne (by omega), ms_ne (by omega)]
        · rw [ms_ne (by omega), ms_ne (by omega), ms_ne (by omega)]
      rw [r1, r2]
      exact ⟨q1, c, q2, q3⟩
  · refine a4.of ?_ ?_
    · rw [ms_ne (by omega), ms_ne (by omega), ms_ne (by omega), ms_ne (by omega), ms_ne (by omega)]
    · rw [ms_sl (by omega), ms_ne (by omega), ms_ne (by omega), ms_ne (by omega), ms_ne (by omega)]
  · refine a5.of ?_ ?_
    · rw [ms_ne (by omega), ms_ne (by omega), ms_ne (by omega), ms_ne (by omega), ms_ne (by omega)]
    · rw [ms_sl (by omega), ms_ne (by omega), ms_ne (by omega), ms_ne (by omega), ms_ne (by omega)]
  · refine R_wy.of a5.1 a6 ?_ ?_ ?_ ?_ ?_ (fun s hs => ?_) <;> simp only [mset] <;> repeat rw [if_neg (by omega)]
  · refine a7.of ?_ (fun s hs => ?_) <;> simp only [mset] <;> repeat rw [if_neg (by omega)]
  · refine a8.of ?_ ?_ ?_ ?_
    · rw [ms_ne (by omega), ms_ne (by omega), ms_ne (by omega), ms_ne (by omega), ms_ne (by omega)]
    · rw [ms_sl (by omega), ms_ne (by omega), ms_ne (by omega), ms_ne (by omega), ms_ne (by omega)]
    · simp only [mset]; repeat rw [if_neg (by omega)]
    · simp only [mset]; repeat rw [if_neg (by omega)]
  · rw [ms_ne (by omega), ms_ne (by omega), ms_ne (by omega), ms_eq]
  · rw [ms_eq]
  · refine (b1.of ?_ ?_ ?_ ?_ ?_ ?_ (fun s hs => ?_) (fun s hs => ?_)).up (by omega)
    · rw [ms_ne (by omega), ms_ne (by omega), ms_ne (by omega), ms_ne (by omega), ms_ne (by omega)]
    · rw [ms_sl (by omega), ms_ne (by omega), ms_ne (by omega), ms_ne (by omega), ms_ne (by omega)]
    · rw [ms_ne (by omega), ms_ne (by omega), ms_ne (by omega), ms_ne (by omega), ms_ne (by omega)]
    all_goals (simp only [mset]; repeat rw [if_neg (by omega)])
  · refine b2.of ?_ ?_ ?_ ?_
    · simp only [mset]; repeat rw [if_neg (by omega)]
    all_goals rw [ms_sl (by omega), ms_ne (by omega), ms_ne (by omega), ms_ne (by omega), ms_ne (by omega)]
  · rw [ms_ne (by omega), ms_ne (by omega), ms_ne (by omega), ms_ne (by omega), ms_eq]
