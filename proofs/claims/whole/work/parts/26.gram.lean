theorem gi_lt {a : Nat} (h : a < 9) : gi a < 9 := by unfold gi; split <;> omega
theorem gi_inj {a b c d : Nat} (ha : a < 9) (hb : b < 9) (hc : c < 9) (hd : d < 9) (h : 9 * gi a + gi b = 9 * gi c + gi d) : a = c ∧ b = d := by
  unfold gi at h
  split at h <;> split at h <;> split at h <;> split at h <;> omega
theorem woe_1 {mem : TMem} {W a : Nat} (w : mem 10 4 = nI W) (hW : W ≤ 8) (ha : a ≤ W) : F_X10_isWordOrEdge mem (nI a - 1) = 1 := by
  unfold F_X10_isWordOrEdge
  rw [w]
  by_cases h : a = 0
  · rw [if_pos ((ix_m1 (by omega)).mpr h)]
  · rw [if_neg (fun q => h ((ix_m1 (by omega)).mp q)), if_neg (woe_in hW ha h)]
theorem gramX_good {mem : TMem} {W a b : Nat} {p3 : Int32} (w : mem 10 4 = nI W) (hW : W ≤ 8) (ha : a ≤ W) (hb : b ≤ W) (hab : ¬ (a = 0 ∧ b = 0)) (hp : p3 = -1 ∨ ¬ F_X10_within p3 0 100 = 0) : G_X10_grammar mem (nI a - 1) (nI b - 1) p3 ∧ F_X10_grammar mem (nI a - 1) (nI b - 1) p3 = mem (31 + a) b ∧ M_X10_grammar mem (nI a - 1) (nI b - 1) p3 = mset (mset (mset mem 40 6 0) 108 5 0) (31 + a) b p3 := by
  have g : G_X5_grammarOf (nI a - 1) (nI b - 1) ∧ G_X5_setGrammar (nI a - 1) (nI b - 1) p3 := by
    unfold G_X5_grammarOf G_X5_setGrammar
    rw [ix_p1, ix_p1]
    exact ⟨⟨vp_in_nI (by omega) (by omega), vp_in_nI (by omega) (by omega)⟩, ⟨vp_in_nI (by omega) (by omega), vp_in_nI (by omega) (by omega)⟩⟩
  unfold G_X10_grammar F_X10_grammar M_X10_grammar
  rw [woe_1 w hW ha, woe_1 w hW hb, ix_p1, ix_p1, nI_clamp (by omega), nI_clamp (by omega)]
  have ea := ix_m1 (a := a) (by omega)
  have eb := ix_m1 (a := b) (by omega)
  refine ⟨fun _ _ => ⟨fun _ _ => ⟨fun _ => g, fun _ _ => g⟩, fun _ => ⟨fun _ => g, fun _ _ => g⟩⟩, ?_⟩
  have n1 : ¬ (1 : Int32) = 0 := by decide
  by_cases ca : a = 0 <;> by_cases cb : b = 0 <;> by_cases c3 : p3 = -1 <;> simp_all
theorem gramM_good {mem : TMem} {W a b : Nat} {p3 : Int32} (w : mem 187 4 = nI W) (hW : W ≤ 8) (ha : a ≤ W) (hb : b ≤ W) (hab : ¬ (a = 0 ∧ b = 0)) (hp : ¬ F_X10_within p3 (-1) 100 = 0) : G_X11_grammar mem (nI a - 1) (nI b - 1) p3 ∧ F_X11_grammar mem (nI a - 1) (nI b - 1) p3 = mem 193 (9 * gi a + gi b) ∧ M_X11_grammar mem (nI a - 1) (nI b - 1) p3 = mset (mset mem 193 (9 * gi a + gi b) p3) 187 11 0 := by
  obtain ⟨g, f⟩ := beh_eq (mem := mem) (a := a) (b := b) (by omega) (by omega)
  have ea := ix_m1 (a := a) (by omega)
  have eb := ix_m1 (a := b) (by omega)
  unfold G_X11_grammar F_X11_grammar M_X11_grammar
  rw [in_eq, w, f]
  by_cases ca : a = 0
  · have fa := ea.mpr ca
    by_cases cb : b = 0
    · exact absurd ⟨ca, cb⟩ hab
    · have fb : ¬ nI b - 1 = -1 := fun q => cb (eb.mp q)
      have hin := woe_in hW hb cb
      obtain ⟨c, rfl⟩ : ∃ c, b = c + 1 := ⟨b - 1, by omega⟩
      have e : (9 * 8 : Int32) + (nI (c + 1) - 1) = nI (72 + c) := by rw [nI_pred, show (9 * 8 : Int32) = nI 72 from rfl, nI_add]
      have eg : 9 * gi a + gi (c + 1) = 72 + c := by subst ca; simp [gi]
      refine ⟨⟨fun _ _ _ _ => ⟨g, by rw [e]; exact vp_in_nI (by omega) (by omega)⟩, fun q => absurd fa q⟩, ?_, ?_⟩
      · rw [if_pos fa, if_neg fb, if_neg hin, if_neg hp]
      · rw [if_pos fa, if_neg fb, if_neg hin, if_neg hp, e, nI_clamp (by omega), eg]
  · have fa : ¬ nI a - 1 = -1 := fun q => ca (ea.mp q)
    have hia := woe_in hW ha ca
    obtain ⟨x, rfl⟩ : ∃ x, a = x + 1 := ⟨a - 1, by omega⟩
    by_cases cb : b = 0
    · have fb := eb.mpr cb
      have e : (9 : Int32) * (nI (x + 1) - 1) + 8 = nI (9 * x + 8) := by rw [nI_pred, show (9 : Int32) = nI 9 from rfl, show (8 : Int32) = nI 8 from rfl, pk_mul, nI_add]
      have eg : 9 * gi (x + 1) + gi b = 9 * x + 8 := by subst cb; simp [gi]
      refine ⟨⟨fun q => absurd q fa, fun _ _ => ⟨fun _ _ => ⟨g, by rw [e]; exact vp_in_nI (by omega) (by omega)⟩, fun q => absurd fb q⟩⟩, ?_, ?_⟩
      · rw [if_neg fa, if_neg hia, if_pos fb, if_neg hp]
      · rw [if_neg fa, if_neg hia, if_pos fb, if_neg hp, e, nI_clamp (by omega), eg]
    · have fb : ¬ nI b - 1 = -1 := fun q => cb (eb.mp q)
      have hib := woe_in hW hb cb
      obtain ⟨c, rfl⟩ : ∃ c, b = c + 1 := ⟨b - 1, by omega⟩
      have e : (9 : Int32) * (nI (x + 1) - 1) + (nI (c + 1) - 1) = nI (9 * x + c) := by rw [nI_pred, nI_pred, show (9 : Int32) = nI 9 from rfl, pk_mul, nI_add]
      have eg : 9 * gi (x + 1) + gi (c + 1) = 9 * x + c := by simp [gi]
      refine ⟨⟨fun q => absurd q fa, fun _ _ => ⟨fun q => absurd q fb, fun _ _ _ => ⟨g, by rw [e]; exact vp_in_nI (by omega) (by omega)⟩⟩⟩, ?_, ?_⟩
      · rw [if_neg fa, if_neg hia, if_neg fb, if_neg hib, if_neg hp]
      · rw [if_neg fa, if_neg hia, if_neg fb, if_neg hib, if_neg hp, e, nI_clamp (by omega), eg]
theorem S_grammar (l : Launch) (k : Nat) (mem : TMem) (h : INV k mem) (p1 p2 p3 : Int32) : SIM l i_X10_grammar 3 64 i_X11_grammar 2 43 [.inl p1, .inl p2, .inl p3] (INV (k + 1)) mem := by
  obtain ⟨n, W, T, a1, a2, a3, a4, a5, a6, a7, a8, a9, b1, b2, b3⟩ := id h
  obtain ⟨hW, w1, w2⟩ := id a5
  have bad : (¬ p1 = -1 ∧ F_X10_within p1 0 (nI W - 1) = 0) ∨ (¬ p2 = -1 ∧ F_X10_within p2 0 (nI W - 1) = 0) ∨ (p1 = -1 ∧ p2 = -1) ∨ F_X10_within p3 (-1) 100 = 0 → SIM l i_X10_grammar 3 64 i_X11_grammar 2 43 [.inl p1, .inl p2, .inl p3] (INV (k + 1)) mem := by
    intro hb
    obtain ⟨g1, f1, m1⟩ := gramX_bad (mem := mem) (p1 := p1) (p2 := p2) (p3 := p3) (by rw [w1]; exact hb)
    obtain ⟨g2, f2, m2⟩ := gram_bad (mem := mem) (p1 := p1) (p2 := p2) (p3 := p3) (by rw [w2]; exact hb)
    refine ⟨_, C_X10_grammar l mem p1 p2 p3 g1, ?_⟩
    rintro x m1' ⟨rfl, rfl⟩
    rw [m1, f1]
    refine ⟨_, C_X11_grammar l _ p1 p2 p3 g2, ?_⟩
    rintro y m2' ⟨rfl, rfl⟩
    rw [m2, f2]
    exact ⟨rfl, INV_up _ _ h⟩
  rcases (woe (p := p1) hW).symm with c1 | ⟨a, ha, rfl⟩
  · exact bad (Or.inl c1)
  rcases (woe (p := p2) hW).symm with c2 | ⟨b, hb, rfl⟩
  · exact bad (Or.inr (Or.inl c2))
  by_cases hab : a = 0 ∧ b = 0
  · exact bad (Or.inr (Or.inr (Or.inl ⟨by rw [hab.1, ix_0], by rw [hab.2, ix_0]⟩)))
  by_cases c3 : F_X10_within p3 (-1) 100 = 0
  · exact bad (Or.inr (Or.inr (Or.inr c3)))
  have hp : p3 = -1 ∨ ∃ c, c ≤ 100 ∧ p3 = nI c := by
    by_cases c : p3 = -1
    · exact Or.inl c
    · rw [wi_m1 c] at c3
      obtain ⟨j, -, u, rfl⟩ := wi_ok (a := 0) (b := 100) (by omega) (by omega) c3
      exact Or.inr ⟨j, u, rfl⟩
  have hp2 : p3 = -1 ∨ ¬ F_X10_within p3 0 100 = 0 := by
    by_cases c : p3 = -1
    · exact Or.inl c
    · rw [wi_m1 c] at c3
      exact Or.inr c3
  obtain ⟨g1, f1, m1⟩ := gramX_good w1 hW ha hb hab hp2
  refine ⟨_, C_X10_grammar l mem _ _ p3 g1, ?_⟩
  rintro x m1' ⟨rfl, rfl⟩
  rw [m1, f1]
  have r1 : (mset (mset (mset mem 40 6 0) 108 5 0) (31 + a) b p3) 187 4 = nI W := by rw [ms_ne (by omega), ms_ne (by omega), ms_ne (by omega)]; exact w2
  obtain ⟨g2, f2, m2⟩ := gramM_good r1 hW ha hb hab c3
  refine ⟨_, C_X11_grammar l _ _ _ p3 g2, ?_⟩
  rintro y m2' ⟨rfl, rfl⟩
  rw [m2, f2]
  have la : 31 + a < 40 := by omega
  refine ⟨?_, n, W, T, ?_, ?_, ?_, ?_, ?_, ?_, ?_, ?_, R_la.no ?_ ?_, ?_, ?_, R_ca.no ?_⟩
  · rw [ms_ne (by omega), ms_ne (by omega), ms_ne (by omega)]
    exact (a7 a b (by omega) (by omega)).1.symm
  · refine a1.of ?_ ?_
    · rw [ms_ne (by omega), ms_ne (by omega), ms_ne (by omega), ms_ne (by omega), ms_ne (by omega)]
    · rw [ms_sl (by omega), ms_ne (by omega), ms_ne (by omega), ms_ne (by omega), ms_ne (by omega)]
  · refine a2.of ?_ ?_ <;> simp only [mset] <;> repeat rw [if_neg (by omega)]
  · refine a3.of ?_ (fun s hs => ?_) <;> simp only [mset] <;> repeat rw [if_neg (by omega)]
  · refine a4.of ?_ ?_
    · rw [ms_ne (by omega), ms_ne (by omega), ms_ne (by omega), ms_ne (by omega), ms_ne (by omega)]
    · rw [ms_sl (by omega), ms_ne (by omega), ms_ne (by omega), ms_ne (by omega), ms_ne (by omega)]
  · refine a5.of ?_ ?_
    · rw [ms_ne (by omega), ms_ne (by omega), ms_ne (by omega), ms_ne (by omega), ms_ne (by omega)]
    · rw [ms_sl (by omega), ms_ne (by omega), ms_ne (by omega), ms_ne (by omega), ms_ne (by omega)]
  · refine R_wy.of a5.1 a6 ?_ ?_ ?_ ?_ ?_ (fun s hs => ?_) <;> simp only [mset] <;> repeat rw [if_neg (by omega)]
  · intro i j hi hj
    obtain ⟨q1, q2⟩ := a7 i j hi hj
    by_cases hij : i = a ∧ j = b
    · obtain ⟨rfl, rfl⟩ := hij
      have r1 : (mset (mset (mset (mset (mset mem 40 6 0) 108 5 0) (31 + i) j p3) 193 (9 * gi i + gi j) p3) 187 11 0) 193 (9 * gi i + gi j) = p3 := by rw [ms_ne (by omega), ms_eq]
      have r2 : (mset (mset (mset (mset (mset mem 40 6 0) 108 5 0) (31 + i) j p3) 193 (9 * gi i + gi j) p3) 187 11 0) (31 + i) j = p3 := by rw [ms_ne (by omega), ms_ne (by omega), ms_eq]
      rw [r1, r2]
      exact ⟨rfl, hp⟩
    · have hne : ¬ 9 * gi i + gi j = 9 * gi a + gi b := fun q => hij (gi_inj hi hj (by omega) (by omega) q)
      have r1 : (mset (mset (mset (mset (mset mem 40 6 0) 108 5 0) (31 + a) b p3) 193 (9 * gi a + gi b) p3) 187 11 0) 193 (9 * gi i + gi j) = mem 193 (9 * gi i + gi j) := by
        rw [ms_ne (by omega), ms_sl hne, ms_ne (by omega), ms_ne (by omega), ms_ne (by omega)]
      have r2 : (mset (mset (mset (mset (mset mem 40 6 0) 108 5 0) (31 + a) b p3) 193 (9 * gi a + gi b) p3) 187 11 0) (31 + i) j = mem (31 + i) j := by
        rw [ms_ne (by omega), ms_ne (by omega)]
        by_cases hi0 : i = a
        · subst hi0
          rw [ms_sl (by omega), ms_ne (by omega), ms_ne (by omega)]
        · rw [ms_ne (by omega), ms_ne (by omega), ms_ne (by omega)]
      rw [r1, r2]
      exact ⟨q1, q2⟩
  · refine a8.of ?_ ?_ ?_ ?_
    · rw [ms_ne (by omega), ms_ne (by omega), ms_ne (by omega), ms_ne (by omega), ms_ne (by omega)]
    · rw [ms_sl (by omega), ms_ne (by omega), ms_ne (by omega), ms_ne (by omega), ms_ne (by omega)]
    · simp only [mset]; repeat rw [if_neg (by omega)]
    · simp only [mset]; repeat rw [if_neg (by omega)]
  · rw [ms_ne (by omega), ms_ne (by omega), ms_ne (by omega), ms_eq]
  · rw [ms_eq]
  · refine (b1.of ?_ ?_ ?_ ?_ ?_ ?_ (fun s hs => ?_) (fun s hs => ?_)).up (by omega)
    · rw [ms_ne (by omega), ms_ne (by omega), ms_ne (by omega), ms_ne (by omega), ms_ne (by omega)]
    · rw [ms_sl (by omega), ms_ne (by omega), ms_ne (by omega), ms_ne (by omega), ms_ne (by omega)]
    · rw [ms_ne (by omega), ms_ne (by omega), ms_ne (by omega), ms_ne (by omega), ms_ne (by omega)]
    all_goals (simp only [mset]; repeat rw [if_neg (by omega)])
  · refine b2.of ?_ ?_ ?_ ?_
    · simp only [mset]; repeat rw [if_neg (by omega)]
    all_goals rw [ms_sl (by omega), ms_ne (by omega), ms_ne (by omega), ms_ne (by omega), ms_ne (by omega)]
  · rw [ms_ne (by omega), ms_ne (by omega), ms_ne (by omega), ms_ne (by omega), ms_eq]
