/-! SIMULATIONS of the plain calls -/
theorem in_eq : @F_X11_in = @F_X10_within := rfl
theorem wi_ok {p : Int32} {a b : Nat} (ha : a < 2 ^ 31) (hb : b < 2 ^ 31) (h : ¬ F_X10_within p (nI a) (nI b) = 0) : ∃ j, a ≤ j ∧ j ≤ b ∧ p = nI j := by
  unfold F_X10_within at h
  by_cases c1 : p < nI a
  · rw [if_pos c1] at h; exact absurd rfl h
  · by_cases c2 : nI b < p
    · rw [if_neg c1, if_pos c2] at h; exact absurd rfl h
    · have h0 : ¬ p < 0 := fun h0 => c1 (by
        rw [Int32.lt_iff_toInt_lt] at h0 ⊢
        rw [nI_toInt ha]
        have : (0 : Int32).toInt = 0 := by decide
        omega)
      obtain ⟨j, hj, rfl⟩ := nI_of h0
      rw [nI_ltI hj ha] at c1
      rw [nI_ltI hb hj] at c2
      exact ⟨j, by omega, by omega, rfl⟩
theorem wi_yes {a b j : Nat} (hb : b < 2 ^ 31) (h1 : a ≤ j) (h2 : j ≤ b) : ¬ F_X10_within (nI j) (nI a) (nI b) = 0 := by
  unfold F_X10_within
  rw [if_neg (nI_nlt h1 (by omega)), if_neg (nI_nlt h2 hb)]
  decide
/-- a word's number: below W -/
theorem wi_word {p : Int32} {W : Nat} (hW : W ≤ 100) (h : ¬ F_X10_within p 0 (nI W - 1) = 0) : ∃ j, j < W ∧ p = nI j := by
  cases W with
  | zero =>
    exfalso
    apply h
    unfold F_X10_within
    by_cases c1 : p < 0
    · rw [if_pos c1]
    · rw [if_neg c1, if_pos]
      rw [Int32.lt_iff_toInt_lt] at c1 ⊢
      have : (0 : Int32).toInt = 0 := by decide
      have : (nI 0 - 1 : Int32).toInt = -1 := by decide
      omega
  | succ W =>
    rw [nI_pred] at h
    obtain ⟨j, h1, h2, h3⟩ := wi_ok (a := 0) (b := W) (by omega) (by omega) h
    exact ⟨j, by omega, h3⟩
theorem S_ears (l : Launch) (k : Nat) (mem : TMem) (h : INV k mem) (p1 p2 p3 : Int32) : SIM l i_X10_ears 1 23 i_X11_ears 1 22 [.inl p1, .inl p2, .inl p3] (INV (k + 1)) mem := by
  refine ⟨_, C_X10_ears l mem p1 p2 p3, ?_⟩
  rintro x m1 ⟨rfl, rfl⟩
  refine ⟨_, C_X11_ears l _ p1 p2 p3, ?_⟩
  rintro y m2 ⟨rfl, rfl⟩
  refine ⟨rfl, ?_⟩
  unfold M_X11_ears M_X10_ears
  rw [in_eq]
  by_cases c1 : F_X10_within p1 1 7 = 0
  · simp only [if_pos c1]; exact INV_up _ _ h
  by_cases c2 : F_X10_within p2 1 5 = 0
  · simp only [if_neg c1, if_pos c2]; exact INV_up _ _ h
  by_cases c3 : F_X10_within p3 1 9 = 0
  · simp only [if_neg c1, if_neg c2, if_pos c3]; exact INV_up _ _ h
  simp only [if_neg c1, if_neg c2, if_neg c3]
  obtain ⟨j1, u1, u2, rfl⟩ := wi_ok (a := 1) (b := 7) (by omega) (by omega) c1
  obtain ⟨j2, u3, u4, rfl⟩ := wi_ok (a := 1) (b := 5) (by omega) (by omega) c2
  obtain ⟨j3, u5, u6, rfl⟩ := wi_ok (a := 1) (b := 9) (by omega) (by omega) c3
  obtain ⟨n, W, T, a1, a2, a3, a4, a5, a6, a7, a8, a9, b1, b2, b3⟩ := h
  exact ⟨n, W, T, (a1.of (by simp [mset, upd]) (by simp [mset, upd])), (a2.of (by simp [mset, upd]) (by simp [mset, upd])), (a3.of (by simp [mset, upd]) (fun s hs => by simp only [mset]; repeat rw [if_neg (by omega)])), (a4.of (by simp [mset, upd]) (by simp [mset, upd])), (a5.of (by simp [mset, upd]) (by simp [mset, upd])), (R_wy.of a5.1 a6 (by simp [mset, upd]) (by simp [mset, upd]) (by simp [mset, upd]) (by simp [mset, upd]) (by simp [mset, upd]) (fun s hs => by simp only [mset]; repeat rw [if_neg (by omega)])), (a7.of (by simp [mset, upd]) (fun s hs => by simp only [mset]; repeat rw [if_neg (by omega)])), (a8.of (by simp [mset, upd]) (by simp [mset, upd]) (by simp [mset, upd]) (by simp [mset, upd])), (a9.of (by simp [mset, upd]) (by simp [mset, upd]) (by simp [mset, upd]) (by simp [mset, upd]) (by simp [mset, upd]) (by simp [mset, upd]) (by simp [mset, upd])), ((b1.of (by simp [mset, upd]) (by simp [mset, upd]) (by simp [mset, upd]) (by simp [mset, upd]) (by simp [mset, upd]) (by simp [mset, upd]) (fun s hs => by simp only [mset]; repeat rw [if_neg (by omega)]) (fun s hs => by simp only [mset]; repeat rw [if_neg (by omega)])).up (by omega)), ⟨j1, j2, j3, u1, u2, u3, u4, u5, u6, by simp [mset, upd], by simp [mset, upd], by simp [mset, upd], by simp [mset, upd], by simp [mset, upd], by simp [mset, upd]⟩, (b3.of (dat_of (by simp [mset, upd]) (by simp [mset, upd]) (by simp [mset, upd]) (by simp [mset, upd]) (fun s hs => by simp only [mset]; repeat rw [if_neg (by omega)]) (by simp [mset, upd]) (by simp [mset, upd]) (fun s hs => by simp only [mset]; repeat rw [if_neg (by omega)]) (fun s hs => by simp only [mset]; repeat rw [if_neg (by omega)])) (by simp [mset, upd]) (by simp [mset, upd]) (by simp [mset, upd]) (by simp [mset, upd]) (by simp [mset, upd]))⟩
theorem S_stay (l : Launch) (k : Nat) (mem : TMem) (h : INV k mem) (p1 : Int32) : SIM l i_X10_stay 2 40 i_X11_stay 1 22 [.inl p1] (INV (k + 1)) mem := by
  refine ⟨_, C_X10_stay l mem p1, ?_⟩
  rintro x m1 ⟨rfl, rfl⟩
  refine ⟨_, C_X11_stay l _ p1, ?_⟩
  rintro y m2 ⟨rfl, rfl⟩
  unfold F_X11_stay F_X10_stay M_X11_stay M_X10_stay
  rw [in_eq]
  by_cases c1 : F_X10_within p1 0 20 = 0
  · simp only [if_pos c1]; exact ⟨trivial, INV_up _ _ h⟩
  simp only [if_neg c1]
  obtain ⟨j1, u1, u2, rfl⟩ := wi_ok (a := 0) (b := 20) (by omega) (by omega) c1
  obtain ⟨n, W, T, a1, a2, a3, a4, a5, a6, a7, a8, a9, b1, b2, b3⟩ := h
  refine ⟨?_, n, W, T, (a1.of (by simp [mset, upd]) (by simp [mset, upd])), (a2.of (by simp [mset, upd]) (by simp [mset, upd])), (a3.of (by simp [mset, upd]) (fun s hs => by simp only [mset]; repeat rw [if_neg (by omega)])), ⟨j1, u2, by simp [mset, upd], by simp [mset, upd]⟩, (a5.of (by simp [mset, upd]) (by simp [mset, upd])), (R_wy.of a5.1 a6 (by simp [mset, upd]) (by simp [mset, upd]) (by simp [mset, upd]) (by simp [mset, upd]) (by simp [mset, upd]) (fun s hs => by simp only [mset]; repeat rw [if_neg (by omega)])), (a7.of (by simp [mset, upd]) (fun s hs => by simp only [mset]; repeat rw [if_neg (by omega)])), (a8.of (by simp [mset, upd]) (by simp [mset, upd]) (by simp [mset, upd]) (by simp [mset, upd])), (R_la.no (by simp [mset, upd]) (by simp [mset, upd])), ((b1.of (by simp [mset, upd]) (by simp [mset, upd]) (by simp [mset, upd]) (by simp [mset, upd]) (by simp [mset, upd]) (by simp [mset, upd]) (fun s hs => by simp only [mset]; repeat rw [if_neg (by omega)]) (fun s hs => by simp only [mset]; repeat rw [if_neg (by omega)])).up (by omega)), (b2.of (by simp [mset, upd]) (by simp [mset, upd]) (by simp [mset, upd]) (by simp [mset, upd])), (R_ca.no (by simp [mset, upd]))⟩
  obtain ⟨c, -, e1, e2⟩ := a4
  simp [mset, upd, e1, e2]
theorem S_hush (l : Launch) (k : Nat) (mem : TMem) (h : INV k mem) : SIM l i_X10_hush 2 40 i_X11_hush 0 0 [] (INV (k + 1)) mem := by
  refine ⟨_, C_X10_hush l mem, ?_⟩
  rintro x m1 ⟨rfl, rfl⟩
  refine ⟨_, C_X11_hush l _, ?_⟩
  rintro y m2 ⟨rfl, rfl⟩
  obtain ⟨n, W, T, a1, a2, a3, a4, a5, a6, a7, a8, a9, b1, b2, b3⟩ := h
  refine ⟨?_, 0, W, T, ⟨by omega, by simp [mset, upd, nI_0], by simp [mset, upd, nI_0]⟩, (fun f hf => absurd hf (Nat.not_lt_zero f)), (a3.of (by simp [mset, upd]) (fun s hs => by simp only [mset]; repeat rw [if_neg (by omega)])), (a4.of (by simp [mset, upd]) (by simp [mset, upd])), (a5.of (by simp [mset, upd]) (by simp [mset, upd])), (R_wy.of a5.1 a6 (by simp [mset, upd]) (by simp [mset, upd]) (by simp [mset, upd]) (by simp [mset, upd]) (by simp [mset, upd]) (fun s hs => by simp only [mset]; repeat rw [if_neg (by omega)])), (a7.of (by simp [mset, upd]) (fun s hs => by simp only [mset]; repeat rw [if_neg (by omega)])), (a8.of (by simp [mset, upd]) (by simp [mset, upd]) (by simp [mset, upd]) (by simp [mset, upd])), (R_la.no (by simp [mset, upd]) (by simp [mset, upd])), ((b1.of (by simp [mset, upd]) (by simp [mset, upd]) (by simp [mset, upd]) (by simp [mset, upd]) (by simp [mset, upd]) (by simp [mset, upd]) (fun s hs => by simp only [mset]; repeat rw [if_neg (by omega)]) (fun s hs => by simp only [mset]; repeat rw [if_neg (by omega)])).up (by omega)), (b2.of (by simp [mset, upd]) (by simp [mset, upd]) (by simp [mset, upd]) (by simp [mset, upd])), (R_ca.no (by simp [mset, upd]))⟩
  obtain ⟨-, e1, e2⟩ := a1
  simp [mset, e1, e2]
theorem S_unsay (l : Launch) (k : Nat) (mem : TMem) (h : INV k mem) : SIM l i_X10_unsay 1 20 i_X11_unsay 0 0 [] (INV (k + 1)) mem := by
  refine ⟨_, C_X10_unsay l mem, ?_⟩
  rintro x m1 ⟨rfl, rfl⟩
  refine ⟨_, C_X11_unsay l _, ?_⟩
  rintro y m2 ⟨rfl, rfl⟩
  obtain ⟨n, W, T, a1, a2, a3, a4, a5, a6, a7, a8, a9, b1, b2, b3⟩ := h
  refine ⟨?_, n, W, 0, (a1.of (by simp [mset, upd]) (by simp [mset, upd])), (a2.of (by simp [mset, upd]) (by simp [mset, upd])), (a3.of (by simp [mset, upd]) (fun s hs => by simp only [mset]; repeat rw [if_neg (by omega)])), (a4.of (by simp [mset, upd]) (by simp [mset, upd])), (a5.of (by simp [mset, upd]) (by simp [mset, upd])), (R_wy.of a5.1 a6 (by simp [mset, upd]) (by simp [mset, upd]) (by simp [mset, upd]) (by simp [mset, upd]) (by simp [mset, upd]) (fun s hs => by simp only [mset]; repeat rw [if_neg (by omega)])), (a7.of (by simp [mset, upd]) (fun s hs => by simp only [mset]; repeat rw [if_neg (by omega)])), ⟨by omega, by simp [mset, upd, nI_0], by simp [mset, upd, nI_0], fun i hi => absurd hi (Nat.not_lt_zero i)⟩, (R_la.no (by simp [mset, upd]) (by simp [mset, upd])), ((b1.of (by simp [mset, upd]) (by simp [mset, upd]) (by simp [mset, upd]) (by simp [mset, upd]) (by simp [mset, upd]) (by simp [mset, upd]) (fun s hs => by simp only [mset]; repeat rw [if_neg (by omega)]) (fun s hs => by simp only [mset]; repeat rw [if_neg (by omega)])).up (by omega)), (b2.of (by simp [mset, upd]) (by simp [mset, upd]) (by simp [mset, upd]) (by simp [mset, upd])), (b3.of (dat_of (by simp [mset, upd]) (by simp [mset, upd]) (by simp [mset, upd]) (by simp [mset, upd]) (fun s hs => by simp only [mset]; repeat rw [if_neg (by omega)]) (by simp [mset, upd]) (by simp [mset, upd]) (fun s hs => by simp only [mset]; repeat rw [if_neg (by omega)]) (fun s hs => by simp only [mset]; repeat rw [if_neg (by omega)])) (by simp [mset, upd]) (by simp [mset, upd]) (by simp [mset, upd]) (by simp [mset, upd]) (by simp [mset, upd]))⟩
  obtain ⟨-, e1, e2, -⟩ := a8
  simp [mset, e1, e2]
