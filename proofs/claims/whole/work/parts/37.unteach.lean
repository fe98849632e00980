/-! UNTEACH -/
theorem hc_le (f : Nat → Int32) (x : Int32) (m : Nat) : hc f x m ≤ m := by
  induction m with
  | zero => exact Nat.le_refl _
  | succ m ih => unfold hc; split <;> omega
theorem sm_add (f g : Nat → Nat) (m : Nat) : sm (fun i => f i + g i) m = sm f m + sm g m := by
  induction m with
  | zero => rfl
  | succ m ih => unfold sm; rw [ih]; omega
theorem sm_one {m c : Nat} (h : c < m) : sm (fun i => if i = c then 1 else 0) m = 1 := by
  induction m with
  | zero => omega
  | succ m ih =>
    unfold sm
    by_cases e : c = m
    · subst e
      have : sm (fun i => if i = c then 1 else 0) c = 0 := by
        have : sm (fun i => if i = c then 1 else 0) c = sm (fun _ => 0) c := sm_congr (fun i hi => if_neg (by omega))
        rw [this]
        clear this h ih
        induction c with
        | zero => rfl
        | succ c ih => unfold sm; rw [ih]
      rw [this, if_pos rfl]
    · rw [ih (by omega), if_neg (by omega)]
theorem hc_all {f : Nat → Int32} {m : Nat} (h : ∀ q, q < m → ∃ c, c < 48 ∧ f q = nI c) : sm (fun c => hc f (nI c) m) 48 = m := by
  induction m with
  | zero => exact (show sm (fun _ => 0) 48 = 0 by decide)
  | succ m ih =>
    have e : sm (fun c => hc f (nI c) (m + 1)) 48 = sm (fun c => hc f (nI c) m + if f m = nI c then 1 else 0) 48 := rfl
    rw [e, sm_add, ih (fun q hq => h q (by omega))]
    obtain ⟨c, hc1, hc2⟩ := h m (by omega)
    have : sm (fun i => if f m = nI i then 1 else 0) 48 = sm (fun i => if i = c then 1 else 0) 48 := sm_congr (fun i hi => by
      rw [hc2]
      by_cases x : i = c
      · subst x; simp
      · have : ¬ nI c = nI i := fun q => x ((nI_eq (by omega) (by omega)).mp q).symm
        rw [if_neg this, if_neg x])
    rw [this, sm_one hc1]
def ULX (N h : Nat → Nat) (mm : TMem) (s j : Nat) (m : TMem) : Prop := (∀ s2 j2, s2 < 6 → j2 < 8 → (dn2 s j s2 j2 → m (158 + s2) j2 = nI (N (8 * s2 + j2) - h (8 * s2 + j2))) ∧ (¬ dn2 s j s2 j2 → m (158 + s2) j2 = nI (N (8 * s2 + j2)))) ∧ ∀ o k, (o < 158 ∨ 164 ≤ o) → m o k = mm o k
theorem ULX_up {N h : Nat → Nat} {mm m : TMem} {s : Nat} (q : ULX N h mm s 8 m) : ULX N h mm (s + 1) 0 m := ⟨fun s2 j2 q1 q2 => ⟨fun z => (q.1 s2 j2 q1 q2).1 (by unfold dn2 at z ⊢; omega), fun z => (q.1 s2 j2 q1 q2).2 (by unfold dn2 at z ⊢; omega)⟩, q.2⟩
theorem ULX_step {N h : Nat → Nat} {mm m : TMem} {s j : Nat} (hs : s < 6) (q : ULX N h mm s j m) : ULX N h mm s (j + 1) (mset m (158 + s) j (nI (N (8 * s + j) - h (8 * s + j)))) := by
  refine ⟨fun s2 j2 q1 q2 => ?_, fun o k ho => by rw [ms_ne (by omega)]; exact q.2 o k ho⟩
  by_cases e : s2 = s ∧ j2 = j
  · obtain ⟨rfl, rfl⟩ := e
    exact ⟨fun _ => ms_eq, fun z => absurd (Or.inr ⟨rfl, by omega⟩) z⟩
  · have r : mset m (158 + s) j (nI (N (8 * s + j) - h (8 * s + j))) (158 + s2) j2 = m (158 + s2) j2 := by
      by_cases es : s2 = s
      · subst es; rw [ms_sl (by omega)]
      · rw [ms_ne (by omega)]
    rw [r]
    exact ⟨fun z => (q.1 s2 j2 q1 q2).1 (by unfold dn2 at z ⊢; omega), fun z => (q.1 s2 j2 q1 q2).2 (by unfold dn2 at z ⊢; omega)⟩
set_option maxRecDepth 100000 in
theorem C_unlearn (l : Launch) {mem : TMem} {N h : Nat → Nat} {K nx : Nat} (hK0 : 0 < K) (hK : K ≤ 16) (hx : nx < 16) (e3 : mem 156 3 = nI K) (e2 : mem 156 2 = nI nx) (hN : ∀ s j, s < 6 → j < 8 → mem (158 + s) j = nI (N (8 * s + j))) (hh : ∀ c, c < 48 → mem (165 + (nx + 15) % 16) c = nI (h c)) (hle : ∀ c, c < 48 → h c ≤ N c) : TMi l i_X4_unlearn 0 0 [.inr 156] mem (fun x m => x = nI (sm h 48) ∧ ULX N h (mset (mset mem 156 2 (nI ((nx + 15) % 16))) 156 3 (nI (K - 1))) 6 0 m) := by
  refine tw_met (by decide) (Nat.le_of_ble_eq_true rfl) (fun κ hl hC hT => ?_)
  have hr : (nI nx + 16 - 1 : Int32) - (nI nx + 16 - 1) / 16 * 16 = nI ((nx + 15) % 16) := by
    have e : (nI nx + 16 - 1 : Int32) = nI (nx + 15) := by
      rw [show nI nx + 16 = nI (nx + 16) from nI_add _ 16, show nI (nx + 16) - 1 = nI (nx + 15) from nI_pred (nx + 15)]
    rw [e]
    exact pk_rem (d := 16) (by omega) (by omega) (by omega)
  have hlt : (nx + 15) % 16 < 16 := Nat.mod_lt _ (by omega)
  generalize hre : (nx + 15) % 16 = r at hr hlt hh ⊢
  have hshp : shp[165 + r]? = some (.inr (.inl 48)) := shr_164 r hlt
  generalize hmm : mset (mset mem 156 2 (nI r)) 156 3 (nI (K - 1)) = mm
  have hmo : ∀ o k, ¬ o = 156 → mm o k = mem o k := fun o k z => by rw [← hmm, ms_ne z, ms_ne z]
  have inner : ∀ s, s < 6 → (∀ m, ULX N h mm (s + 1) 0 m → WT κ 40 [some (.inr 156), some (.inr (165 + r)), some (.inl (nI (sm h (8 * s + 8)))), some (.inl (nI s + 1)), none, none] [] m) → ∀ i j m, i + j = 8 → ULX N h mm s j m → WT κ 49 [some (.inr 156), some (.inr (165 + r)), some (.inl (nI (sm h (8 * s + j)))), some (.inl (nI s)), some (.inl (nI j)), none] [] m := by
    intro s hs next i
    induction i with
    | zero =>
      intro j m hj hm
      have : j = 8 := by omega
      subst this
      exact K_X4_unlearn_49 hC hT m _ hshp _ _ _ ⟨fun _ => next m (ULX_up hm), fun q => absurd (by decide) q⟩
    | succ i ih =>
      intro j m hj hm
      have e8 : nI s * 8 + nI j = nI (8 * s + j) := by rw [show (8 : Int32) = nI 8 from rfl, pk_mul, nI_add, Nat.mul_comm]
      refine K_X4_unlearn_49 hC hT m _ hshp _ _ _ ⟨fun q => absurd q (nI_ge (b := 8) (by omega) (by omega)), fun _ => ⟨by rw [e8]; exact vp_in_nI (by omega) (by omega), vp_in_nI hs (by omega), vp_in_nI (by omega) (by omega), ?_⟩⟩
      have hv : m (165 + r) (8 * s + j) = nI (h (8 * s + j)) := by rw [hm.2 _ _ (by omega), hmo _ _ (by omega)]; exact hh _ (by omega)
      rw [e8, nI_clamp (by omega), nI_clamp (by omega), nI_clamp (by omega), hv, (hm.1 s j hs (by omega)).2 (by unfold dn2; omega), nI_add, nI_1, pk_sub (hle _ (by omega))]
      exact ih (j + 1) _ (by omega) (ULX_step hs hm)
  have outer : ∀ i s m, i + s = 6 → ULX N h mm s 0 m → WT κ 40 [some (.inr 156), some (.inr (165 + r)), some (.inl (nI (sm h (8 * s)))), some (.inl (nI s)), none, none] [] m := by
    intro i
    induction i with
    | zero =>
      intro s m hs hm
      have : s = 6 := by omega
      subst this
      exact K_X4_unlearn_40 hC hT m _ hshp _ _ ⟨fun _ => ⟨_, rfl, rfl, by rw [hre, hmm]; exact hm⟩, fun q => absurd (by decide) q⟩
    | succ i ih =>
      intro s m hs hm
      refine K_X4_unlearn_40 hC hT m _ hshp _ _ ⟨fun q => absurd q (nI_ge (b := 6) (by omega) (by omega)), fun _ => inner s (by omega) (fun m3 h3 => ?_) 8 0 m (by omega) hm⟩
      rw [nI_1]
      exact ih (s + 1) m3 (by omega) h3
  refine K_X4_unlearn_0 hC hT mem ⟨by rw [e2, hr]; exact vp_in_nI hlt (by omega), ?_⟩
  have ek : nI K - 1 = nI (K - 1) := by
    obtain ⟨K2, rfl⟩ : ∃ K2, K = K2 + 1 := ⟨K - 1, by omega⟩
    rw [nI_pred]; rfl
  rw [e2, hr, e3, ek, nI_clamp (by omega), hmm]
  exact outer 6 0 mm (by omega) ⟨fun s2 j2 q1 q2 => ⟨fun q => absurd q (by unfold dn2; omega), fun _ => by rw [hmo _ _ (by omega)]; exact hN s2 j2 q1 q2⟩, fun _ _ _ => rfl⟩
