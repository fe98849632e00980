theorem FST_congr {lo lo2 : Nat → Bool} {fr m n : Nat} {r : Int32} (hm : 1 ≤ m) (hl : ∀ f, f < n → lo f = lo2 f) (h : FST lo fr m n r) : FST lo2 fr m n r := by
  have key : ∀ i, i + m ≤ n → (runAt lo i m ↔ runAt lo2 i m) := fun i hi => ⟨fun q t ht => by rw [← hl _ (by omega)]; exact q t ht, fun q t ht => by rw [hl _ (by omega)]; exact q t ht⟩
  rcases h with ⟨h1, h2⟩ | ⟨i, h1, h2, h3, h4, h5⟩
  · exact Or.inl ⟨h1, fun i q1 q2 q3 => h2 i q1 q2 ((key i q2).mpr q3)⟩
  · exact Or.inr ⟨i, h1, h2, h3, (key i h3).mp h4, fun i2 q1 q2 q3 => h5 i2 q1 q2 ((key i2 (by omega)).mpr q3)⟩
set_option maxRecDepth 100000 in
theorem Fo_in {κ : TCx} {post0 : Option TV → TMem → Prop} (hC : TC κ RX11 cX11_firstOf 6 0 0) (hT : TR κ (some .int) post0) {mem : TMem} {n a m i : Nat} {L : Bool} (hn : n ≤ 40) (hm : m ≤ 9) (ea : mem 187 19 = nI a) (hi : i + m ≤ n) (hyes : runAt (fun f => decide (nI a ≤ mem 188 f) == L) i m → post0 (some (.inl (nI i))) mem) (hno : ¬ runAt (fun f => decide (nI a ≤ mem 188 f) == L) i m → WT κ 3 [some (.inr 187), none, some (.inl (nI m)), some (.inl (if L then 1 else 0)), some (.inl (nI (i + 1))), none] [] mem) : ∀ j t, j + t = m → runAt (fun f => decide (nI a ≤ mem 188 f) == L) i t → WT κ 17 [some (.inr 187), none, some (.inl (nI m)), some (.inl (if L then 1 else 0)), some (.inl (nI i)), some (.inl (nI t))] [] mem := by
  intro j
  induction j with
  | zero =>
    intro t hj ht
    have : t = m := by omega
    subst this
    exact K_X11_firstOf_17 hC hT mem _ _ _ _ ⟨fun _ => ⟨fun _ => hyes ht, fun q => absurd rfl q⟩, fun q => absurd (nI_le (Nat.le_refl _) (by omega)) q⟩
  | succ j ih =>
    intro t hj ht
    have htm : t < m := by omega
    have ne : ¬ nI t = nI m := fun q => by have := (nI_eq (by omega) (by omega)).mp q; omega
    have e : (Int32.toNatClampNeg (nI i + nI t)) = i + t := by rw [nI_add, nI_clamp (by omega)]
    refine K_X11_firstOf_17 hC hT mem _ _ _ _ ⟨fun q => absurd q (nI_ge htm (by omega)), fun _ => ⟨by rw [nI_add]; exact vp_in_nI (by omega) (by omega), ?_, ?_⟩⟩
    · rw [e, ea]
      intro q
      have hd : decide (nI a ≤ mem 188 (i + t)) = false := by
        simp only [decide_eq_false_iff_not]
        rw [Int32.lt_iff_toInt_lt] at q
        rw [Int32.le_iff_toInt_le]
        omega
      refine ⟨fun z => ?_, fun z => ⟨fun y => absurd y ne, fun _ => ?_⟩⟩
      · have hL : L = false := by
          cases L
          · rfl
          · exact absurd z (by decide)
        rw [nI_1]
        refine ih (t + 1) (by omega) (fun u hu => ?_)
        by_cases hut : u = t
        · subst hut; simp [hd, hL]
        · exact ht u (by omega)
      · have hL : L = true := by
          cases L
          · exact absurd rfl z
          · rfl
        rw [nI_1]
        refine hno (fun q2 => ?_)
        have := q2 t htm
        simp [hd, hL] at this
    · rw [e, ea]
      intro q
      have hd : decide (nI a ≤ mem 188 (i + t)) = true := by
        simp only [decide_eq_true_eq]
        rw [Int32.lt_iff_toInt_lt] at q
        rw [Int32.le_iff_toInt_le]
        omega
      refine ⟨fun z => ?_, fun z => ⟨fun y => absurd y ne, fun _ => ?_⟩⟩
      · have hL : L = true := by
          cases L
          · exact absurd z (by decide)
          · rfl
        rw [nI_1]
        refine ih (t + 1) (by omega) (fun u hu => ?_)
        by_cases hut : u = t
        · subst hut; simp [hd, hL]
        · exact ht u (by omega)
      · have hL : L = false := by
          cases L
          · rfl
          · exact absurd rfl z
        rw [nI_1]
        refine hno (fun q2 => ?_)
        have := q2 t htm
        simp [hd, hL] at this
set_option maxRecDepth 100000 in
theorem Fo_out {κ : TCx} {post0 : Option TV → TMem → Prop} (hC : TC κ RX11 cX11_firstOf 6 0 0) (hT : TR κ (some .int) post0) {mem : TMem} {n a m fr : Nat} {L : Bool} (hn : n ≤ 40) (hm1 : 1 ≤ m) (hm : m ≤ 9) (en : mem 187 0 = nI n) (ea : mem 187 19 = nI a) (hp : ∀ r, FST (fun f => decide (nI a ≤ mem 188 f) == L) fr m n r → post0 (some (.inl r)) mem) : ∀ j i, j + i = n + 1 → fr ≤ i → (∀ i2, fr ≤ i2 → i2 < i → ¬ runAt (fun f => decide (nI a ≤ mem 188 f) == L) i2 m) → WT κ 3 [some (.inr 187), none, some (.inl (nI m)), some (.inl (if L then 1 else 0)), some (.inl (nI i)), none] [] mem := by
  intro j
  induction j with
  | zero =>
    intro i hj hi hk
    refine K_X11_firstOf_3 hC hT mem _ _ _ ⟨fun _ => hp _ (Or.inl ⟨rfl, fun i2 q1 q2 => hk i2 q1 (by omega)⟩), fun q => absurd ?_ q⟩
    rw [en, nI_add]
    exact nI_lt (by omega) (by omega)
  | succ j ih =>
    intro i hj hi hk
    refine K_X11_firstOf_3 hC hT mem _ _ _ ⟨fun q => ?_, fun q => ?_⟩
    · rw [en, nI_add, nI_ltI (by omega) (by omega)] at q
      exact hp _ (Or.inl ⟨rfl, fun i2 q1 q2 => hk i2 q1 (by omega)⟩)
    · rw [en, nI_add, nI_ltI (by omega) (by omega)] at q
      refine Fo_in hC hT hn hm ea (i := i) (by omega) (fun y => hp _ (Or.inr ⟨i, hi, rfl, by omega, y, hk⟩)) (fun y => ?_) m 0 (by omega) (fun u hu => by omega)
      refine ih (i + 1) (by omega) (by omega) (fun i2 q1 q2 => ?_)
      by_cases e : i2 = i
      · rw [e]; exact y
      · exact hk i2 q1 (by omega)
theorem C_firstOf (l : Launch) {mem : TMem} {n a m fr : Nat} (L : Bool) {v : Int32} (hv : v = if L then 1 else 0) (hn : n ≤ 40) (hm1 : 1 ≤ m) (hm : m ≤ 9) (hfr : fr ≤ n) (en : mem 187 0 = nI n) (ea : mem 187 19 = nI a) : TMi l i_X11_firstOf 0 0 [.inr 187, .inl (nI fr), .inl (nI m), .inl v] mem (fun x m2 => FST (fun f => decide (nI a ≤ mem 188 f) == L) fr m n x ∧ m2 = mem) := by
  subst hv
  refine tw_met (by decide) (Nat.le_of_ble_eq_true rfl) (fun κ hl hC hT => ?_)
  refine K_X11_firstOf_0 hC hT mem _ _ _ ?_
  exact Fo_out hC hT hn hm1 hm en ea (fun r h => ⟨r, rfl, h, rfl⟩) (n + 1 - fr) fr (by omega) (by omega) (fun i2 q1 q2 => by omega)
theorem FST_neg {lo : Nat → Bool} {fr m n : Nat} {r : Int32} (hn : n ≤ 40) (h : FST lo fr m n r) (hr : ¬ r = -1) : ∃ i, i ≤ n ∧ r = nI i := by
  rcases h with ⟨h1, -⟩ | ⟨i, h1, h2, h3, -⟩
  · exact absurd h1 hr
  · exact ⟨i, by omega, h2⟩
theorem S_speech (l : Launch) (k : Nat) (mem : TMem) (h : INV k mem) (p1 : Int32) : SIM l i_X10_speech 3 67 i_X11_speech 1 25 [.inl p1] (INV (k + 1)) mem := by
  obtain ⟨n, W, T, a1, a2, a3, a4, a5, a6, a7, a8, a9, b1, b2, b3⟩ := id h
  obtain ⟨hn, e1, e2⟩ := a1
  obtain ⟨a, b, c, u1, u2, u3, u4, u5, u6, x1, y1, x2, y2, x3, y3⟩ := b2
  have hl : ∀ f, f < n → mem 188 f = mem 2 f := fun f hf => (a2 f hf).1
  -- both answer by the same two searches
  have cX : TMi l i_X10_speech 3 67 [.inr 0, .inl p1] mem (fun x m => (m = mem ∧ ((F_X10_within p1 0 1 = 0 ∧ x = -2) ∨ (¬ F_X10_within p1 0 1 = 0 ∧ ∃ r, FST (fun f => decide (nI a ≤ mem 2 f)) 0 b n r ∧ ((r = -1 ∧ x = -3) ∨ (¬ r = -1 ∧ ((p1 = 0 ∧ x = r) ∨ (¬ p1 = 0 ∧ ∃ i q, i ≤ n ∧ r = nI i ∧ FST (fun f => !decide (nI a ≤ mem 2 f)) i c n q ∧ x = if q = -1 then nI n else q)))))))) := by
    refine tw_met (by decide) (Nat.le_of_ble_eq_true rfl) (fun κ hl hC hT => ?_)
    subst hl
    refine K_X10_speech_0 hC hT mem p1 ⟨fun q => ⟨_, rfl, rfl, Or.inl ⟨q, rfl⟩⟩, fun q => ⟨_, C_begin _ hn e1 a2 u1 u2 x1 u3 u4 x2, ?_⟩⟩
    rintro r m ⟨hr, rfl⟩
    refine ⟨fun z => ⟨_, rfl, rfl, Or.inr ⟨q, r, hr, Or.inl ⟨z, rfl⟩⟩⟩, fun z => ⟨fun y => ⟨_, rfl, rfl, Or.inr ⟨q, r, hr, Or.inr ⟨z, Or.inl ⟨y, rfl⟩⟩⟩⟩, fun y => ?_⟩⟩
    obtain ⟨i, hi, ei⟩ := FST_neg hn hr z
    rw [ei]
    refine ⟨_, C_endBehind _ hn e1 a2 u1 u2 x1 u5 u6 x3 hi, ?_⟩
    rintro x m ⟨⟨q2, hq2, rfl⟩, rfl⟩
    exact ⟨_, rfl, rfl, Or.inr ⟨q, r, hr, Or.inr ⟨z, Or.inr ⟨y, i, q2, hi, ei, hq2, rfl⟩⟩⟩⟩
  have cM : TMi l i_X11_speech 1 25 [.inr 187, .inl p1] mem (fun x m => (m = mem ∧ ((F_X10_within p1 0 1 = 0 ∧ x = -2) ∨ (¬ F_X10_within p1 0 1 = 0 ∧ ∃ r, FST (fun f => decide (nI a ≤ mem 2 f)) 0 b n r ∧ ((r = -1 ∧ x = -3) ∨ (¬ r = -1 ∧ ((p1 = 0 ∧ x = r) ∨ (¬ p1 = 0 ∧ ∃ i q, i ≤ n ∧ r = nI i ∧ FST (fun f => !decide (nI a ≤ mem 2 f)) i c n q ∧ x = if q = -1 then nI n else q)))))))) := by
    refine tw_met (by decide) (Nat.le_of_ble_eq_true rfl) (fun κ hl2 hC hT => ?_)
    subst hl2
    refine K_X11_speech_0 hC hT mem p1 ⟨fun q => ⟨_, rfl, rfl, Or.inl ⟨q, rfl⟩⟩, fun q => ?_⟩
    rw [y2]
    refine ⟨_, C_firstOf _ (n := n) (a := a) (m := b) (fr := 0) true rfl hn u3 (by omega) (by omega) e2 y1, ?_⟩
    rintro r m ⟨hr, rfl⟩
    have hr' : FST (fun f => decide (nI a ≤ m 2 f)) 0 b n r := FST_congr u3 (fun f hf => by rw [hl f hf]; simp) hr
    refine ⟨fun z => ⟨_, rfl, rfl, Or.inr ⟨q, r, hr', Or.inl ⟨z, rfl⟩⟩⟩, fun z => ?_⟩
    obtain ⟨i, hi, ei⟩ := FST_neg hn hr' z
    rw [ei, y3]
    refine ⟨_, C_firstOf _ (n := n) (a := a) (m := c) (fr := i) false rfl hn u5 u6 hi e2 y1, ?_⟩
    rintro q2 m ⟨hq2, rfl⟩
    have hq2' : FST (fun f => !decide (nI a ≤ m 2 f)) i c n q2 := FST_congr u5 (fun f hf => by rw [hl f hf]; simp) hq2
    refine ⟨fun y => ⟨_, rfl, rfl, Or.inr ⟨q, r, hr', Or.inr ⟨z, Or.inl ⟨y, ei.symm⟩⟩⟩⟩, fun y => ⟨fun w => ?_, fun w => ?_⟩⟩
    · exact ⟨_, rfl, rfl, Or.inr ⟨q, r, hr', Or.inr ⟨z, Or.inr ⟨y, i, q2, hi, ei, hq2', by rw [if_pos w, e2]⟩⟩⟩⟩
    · exact ⟨_, rfl, rfl, Or.inr ⟨q, r, hr', Or.inr ⟨z, Or.inr ⟨y, i, q2, hi, ei, hq2', by rw [if_neg w]⟩⟩⟩⟩
  refine ⟨_, cX, ?_⟩
  rintro x m ⟨rfl, hx⟩
  refine ⟨_, cM, ?_⟩
  rintro y m2 ⟨rfl, hy⟩
  refine ⟨?_, INV_up _ _ h⟩
  rcases hx with ⟨q1, rfl⟩ | ⟨q1, r, hr, hx⟩
  · rcases hy with ⟨-, rfl⟩ | ⟨q2, -⟩
    · rfl
    · exact absurd q1 q2
  · rcases hy with ⟨q2, -⟩ | ⟨-, r2, hr2, hy⟩
    · exact absurd q2 q1
    have er := FST_one hr hr2
    subst er
    rcases hx with ⟨z, rfl⟩ | ⟨z, hx⟩
    · rcases hy with ⟨-, rfl⟩ | ⟨z2, -⟩
      · rfl
      · exact absurd z z2
    · rcases hy with ⟨z2, -⟩ | ⟨-, hy⟩
      · exact absurd z2 z
      rcases hx with ⟨w, rfl⟩ | ⟨w, i, q, li, ei, hq, rfl⟩
      · rcases hy with ⟨-, rfl⟩ | ⟨w2, -⟩
        · rfl
        · exact absurd w w2
      · rcases hy with ⟨w2, -⟩ | ⟨-, i2, q2, li2, ei2, hq2, rfl⟩
        · exact absurd w2 w
        · have eii : i = i2 := (nI_eq (by omega) (by omega)).mp (ei.symm.trans ei2)
          subst eii
          have eq := FST_one hq hq2
          rw [eq]
