theorem sb1 {a b : Nat} (h : b ≤ a + 1) (ha : a < 2 ^ 30) : nI a + 1 - nI b = nI (a + 1 - b) := by rw [nI_1, pk_sub h]
set_option maxRecDepth 100000 in
theorem Bg_loop {κ : TCx} {post0 : Option TV → TMem → Prop} (hC : TC κ RX0 cX0_begin 4 2 43) (hT : TR κ (some .int) post0) {mem : TMem} {n a b : Nat} (hn : n ≤ 40) (e1 : mem 1 2 = nI n) (a2 : R_mk mem n) (ha1 : 1 ≤ a) (ha7 : a ≤ 7) (ea : mem 186 0 = nI a) (hb1 : 1 ≤ b) (hb5 : b ≤ 5) (eb : mem 186 1 = nI b) (hp : ∀ r, FST (fun f => decide (nI a ≤ mem 2 f)) 0 b n r → post0 (some (.inl r)) mem) : ∀ j f c, j + f = n → CNT (fun f => decide (nI a ≤ mem 2 f)) 0 b f c → WT κ 4 [some (.inr 186), some (.inr 1), some (.inl (nI c)), some (.inl (nI f))] [] mem := by
  intro j
  induction j with
  | zero =>
    intro f c hj hc
    have : f = n := by omega
    subst this
    refine K_X0_begin_4 hC hT mem _ _ ⟨fun _ => hp _ (CNT_end hc), fun q => absurd (by rw [e1]; exact nI_le (Nat.le_refl _) (by omega)) q⟩
  | succ j ih =>
    intro f c hj hc
    have hf : f < n := by omega
    obtain ⟨g, fl⟩ := loud_X hn a2 ha1 ha7 ea hf
    have hcl := hc.2.1
    refine K_X0_begin_4 hC hT mem _ _ ⟨fun q => absurd q (by rw [e1]; exact nI_ge hf (by omega)), fun _ => ⟨g, fun q => ?_, fun q => ?_⟩⟩
    · have hlo : decide (nI a ≤ mem 2 f) = false := by
        rw [fl] at q
        by_cases x : decide (nI a ≤ mem 2 f) = true
        · rw [if_pos x] at q; exact absurd q (by decide)
        · simpa using x
      refine ⟨fun z => absurd z (by rw [eb]; exact fun z => nI_ne0 (by omega) (by omega) z.symm), fun _ => ?_⟩
      rw [nI_1]
      exact ih (f + 1) 0 (by omega) (CNT_no hb1 hc hlo)
    · have hlo : decide (nI a ≤ mem 2 f) = true := by
        rw [fl] at q
        by_cases x : decide (nI a ≤ mem 2 f) = true
        · exact x
        · rw [if_neg x] at q; exact absurd rfl q
      rw [eb, nI_1]
      refine ⟨fun z => ?_, fun z => ?_⟩
      · have hcb := (nI_eq (by omega) (by omega)).mp z
        rw [sb1 (by have := hc.1; omega) (by omega)]
        exact hp _ (CNT_hit hc hlo hcb hf)
      · have hcb : ¬ c + 1 = b := fun x => z (by rw [x])
        rw [nI_1]
        exact ih (f + 1) (c + 1) (by omega) (CNT_go hc hlo hcb)
theorem C_begin (l : Launch) {mem : TMem} {n a b : Nat} (hn : n ≤ 40) (e1 : mem 1 2 = nI n) (a2 : R_mk mem n) (ha1 : 1 ≤ a) (ha7 : a ≤ 7) (ea : mem 186 0 = nI a) (hb1 : 1 ≤ b) (hb5 : b ≤ 5) (eb : mem 186 1 = nI b) : TMi l i_X0_begin 2 43 [.inr 186, .inr 1] mem (fun x m => FST (fun f => decide (nI a ≤ mem 2 f)) 0 b n x ∧ m = mem) := by
  refine tw_met (by decide) (Nat.le_of_ble_eq_true rfl) (fun κ hl hC hT => ?_)
  refine K_X0_begin_0 hC hT mem ?_
  exact Bg_loop hC hT hn e1 a2 ha1 ha7 ea hb1 hb5 eb (fun r h => ⟨r, rfl, h, rfl⟩) n 0 0 (by omega) (CNT_0 hb1)
set_option maxRecDepth 100000 in
theorem Eb_loop {κ : TCx} {post0 : Option TV → TMem → Prop} (hC : TC κ RX0 cX0_endBehind 5 2 43) (hT : TR κ (some .int) post0) {mem : TMem} {n a b fr : Nat} (hn : n ≤ 40) (e1 : mem 1 2 = nI n) (a2 : R_mk mem n) (ha1 : 1 ≤ a) (ha7 : a ≤ 7) (ea : mem 186 0 = nI a) (hb1 : 1 ≤ b) (hb9 : b ≤ 9) (eb : mem 186 2 = nI b) (hp : ∀ r, FST (fun f => !decide (nI a ≤ mem 2 f)) fr b n r → post0 (some (.inl (if r = -1 then nI n else r))) mem) : ∀ j f c, j + f = n → CNT (fun f => !decide (nI a ≤ mem 2 f)) fr b f c → WT κ 5 [some (.inr 186), some (.inr 1), none, some (.inl (nI c)), some (.inl (nI f))] [] mem := by
  intro j
  induction j with
  | zero =>
    intro f c hj hc
    have : f = n := by omega
    subst this
    refine K_X0_endBehind_5 hC hT mem _ _ ⟨fun _ => ?_, fun q => absurd (by rw [e1]; exact nI_le (Nat.le_refl _) (by omega)) q⟩
    have := hp _ (CNT_end hc)
    rw [if_pos rfl] at this
    rw [e1]
    exact this
  | succ j ih =>
    intro f c hj hc
    have hf : f < n := by omega
    obtain ⟨g, fl⟩ := loud_X hn a2 ha1 ha7 ea hf
    have hcl := hc.2.1
    refine K_X0_endBehind_5 hC hT mem _ _ ⟨fun q => absurd q (by rw [e1]; exact nI_ge hf (by omega)), fun _ => ⟨g, fun q => ?_, fun q => ?_⟩⟩
    · have hlo : (!decide (nI a ≤ mem 2 f)) = true := by
        rw [fl] at q
        by_cases x : decide (nI a ≤ mem 2 f) = true
        · rw [if_pos x] at q; exact absurd q (by decide)
        · simpa using x
      rw [eb, nI_1]
      refine ⟨fun z => ?_, fun z => ?_⟩
      · have hcb := (nI_eq (by omega) (by omega)).mp z
        rw [sb1 (by have := hc.1; omega) (by omega)]
        have := hp _ (CNT_hit hc hlo hcb hf)
        rw [if_neg (fun q => by
          have := congrArg Int32.toInt q
          rw [nI_toInt (by omega)] at this
          have e : (-1 : Int32).toInt = -1 := by decide
          omega)] at this
        exact this
      · have hcb : ¬ c + 1 = b := fun x => z (by rw [x])
        rw [nI_1]
        exact ih (f + 1) (c + 1) (by omega) (CNT_go hc hlo hcb)
    · have hlo : (!decide (nI a ≤ mem 2 f)) = false := by
        rw [fl] at q
        by_cases x : decide (nI a ≤ mem 2 f) = true
        · simp [x]
        · rw [if_neg x] at q; exact absurd rfl q
      refine ⟨fun z => absurd z (by rw [eb]; exact fun z => nI_ne0 (by omega) (by omega) z.symm), fun _ => ?_⟩
      rw [nI_1]
      exact ih (f + 1) 0 (by omega) (CNT_no hb1 hc hlo)
theorem C_endBehind (l : Launch) {mem : TMem} {n a b fr : Nat} (hn : n ≤ 40) (e1 : mem 1 2 = nI n) (a2 : R_mk mem n) (ha1 : 1 ≤ a) (ha7 : a ≤ 7) (ea : mem 186 0 = nI a) (hb1 : 1 ≤ b) (hb9 : b ≤ 9) (eb : mem 186 2 = nI b) (hfr : fr ≤ n) : TMi l i_X0_endBehind 2 43 [.inr 186, .inr 1, .inl (nI fr)] mem (fun x m => (∃ r, FST (fun f => !decide (nI a ≤ mem 2 f)) fr b n r ∧ x = if r = -1 then nI n else r) ∧ m = mem) := by
  refine tw_met (by decide) (Nat.le_of_ble_eq_true rfl) (fun κ hl hC hT => ?_)
  refine K_X0_endBehind_0 hC hT mem _ ?_
  exact Eb_loop hC hT hn e1 a2 ha1 ha7 ea hb1 hb9 eb (fun r h => ⟨_, rfl, ⟨r, h, rfl⟩, rfl⟩) (n - fr) fr 0 (by omega) (CNT_0 hb1)
