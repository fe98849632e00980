def TCH (N : Nat → Nat) (at_ : Nat → Option Nat) (K : Nat) (ms : TMem) (f : Nat) (m : TMem) : Prop := (∀ c, c < 48 → m 198 c = nI (N c + ctl c (cl at_ f))) ∧ (∀ q, q < (cl at_ f).length → m 200 (40 * K + q) = nI ((cl at_ f).getD q 0)) ∧ (∀ x, x < 40 * K → m 200 x = ms 200 x) ∧ ∀ o k, ¬ o = 198 → ¬ o = 200 → m o k = ms o k
set_option maxRecDepth 100000 in
theorem Tch_loop {κ : TCx} {post0 : Option TV → TMem → Prop} (hC : TC κ RX11 cX11_teach 4 0 0) (hT : TR κ (some .int) post0) {ms : TMem} {N : Nat → Nat} {at_ : Nat → Option Nat} {n K : Nat} (hn : n ≤ 40) (hK : K ≤ 15) (en : ms 187 0 = nI n) (ek : ms 187 16 = nI K)
    (hat : ∀ f, f < n → (at_ f = none ∧ ms 188 f = -1) ∨ ∃ s j, s < 6 ∧ j < 8 ∧ at_ f = some (8 * s + j) ∧ ms 188 f = nI j ∧ ms 195 f = nI s)
    (hp : ∀ m, TCH N at_ K ms n m → post0 (some (.inl (nI (cl at_ n).length))) (mset (mset m 199 K (nI (cl at_ n).length)) 187 16 (nI (K + 1)))) : ∀ i f m, i + f = n → TCH N at_ K ms f m → WT κ 99 [some (.inr 187), some (.inl (nI (cl at_ f).length)), some (.inl (nI f)), none] [] m := by
  intro i
  induction i with
  | zero =>
    intro f m hf hm
    have : f = n := by omega
    subst this
    have r0 : m 187 0 = nI f := by rw [hm.2.2.2 187 0 (by omega) (by omega)]; exact en
    have r16 : m 187 16 = nI K := by rw [hm.2.2.2 187 16 (by omega) (by omega)]; exact ek
    refine K_X11_teach_99 hC hT m _ _ ⟨fun _ => ?_, fun q => absurd (by rw [r0]; exact nI_le (Nat.le_refl _) (by omega)) q⟩
    rw [r16, nI_clamp (by omega), nI_1]
    exact ⟨vp_in_nI (by omega) (by omega), hp m hm⟩
  | succ i ih =>
    intro f m hf hm
    have hfn : f < n := by omega
    have r0 : m 187 0 = nI n := by rw [hm.2.2.2 187 0 (by omega) (by omega)]; exact en
    have r16 : m 187 16 = nI K := by rw [hm.2.2.2 187 16 (by omega) (by omega)]; exact ek
    have rm : m 188 f = ms 188 f := hm.2.2.2 188 f (by omega) (by omega)
    have ef : (nI f).toNatClampNeg = f := nI_clamp (by omega)
    have hlen := cl_len at_ f
    refine K_X11_teach_99 hC hT m _ _ ⟨fun q => absurd q (by rw [r0]; exact nI_ge hfn (by omega)), fun _ => ⟨vp_in_nI (by omega) (by omega), ?_⟩⟩
    rw [ef, rm]
    rcases hat f hfn with ⟨z1, z2⟩ | ⟨s, j, u2, u3, u4, u5, u6⟩
    · refine ⟨fun _ => ?_, fun q => absurd z2 q⟩
      have hc := cl_none z1
      have := ih (f + 1) m (by omega) ⟨by rw [hc]; exact hm.1, by rw [hc]; exact hm.2.1, hm.2.2.1, hm.2.2.2⟩
      rw [hc] at this
      rw [nI_1]
      exact this
    · have ne : ¬ ms 188 f = -1 := fun q => by
        rw [u5] at q
        have := congrArg Int32.toInt q
        rw [nI_toInt (by omega)] at this
        have e : (-1 : Int32).toInt = -1 := by decide
        omega
      have r195 : m 195 f = nI s := by rw [hm.2.2.2 195 f (by omega) (by omega)]; exact u6
      have e8 : (8 : Int32) * nI s + nI j = nI (8 * s + j) := by rw [show (8 : Int32) = nI 8 from rfl, pk_mul, nI_add]
      have e48 : (nI (8 * s + j)).toNatClampNeg = 8 * s + j := nI_clamp (by omega)
      have e40 : (40 : Int32) * nI K + nI (cl at_ f).length = nI (40 * K + (cl at_ f).length) := by rw [show (40 : Int32) = nI 40 from rfl, pk_mul, nI_add]
      have e640 : (nI (40 * K + (cl at_ f).length)).toNatClampNeg = 40 * K + (cl at_ f).length := nI_clamp (by omega)
      refine ⟨fun q => absurd q ne, fun _ => ?_⟩
      have hc := cl_some u4
      have hlen2 : (cl at_ (f + 1)).length = (cl at_ f).length + 1 := by rw [hc, List.length_append, List.length_singleton]
      rw [r195, u5, e8, r16, e40, e48, e640, hm.1 (8 * s + j) (by omega), nI_1, nI_1, nI_1, ← hlen2]
      refine ⟨vp_in_nI (by omega) (by omega), vp_in_nI (by omega) (by omega), ?_⟩
      refine ih (f + 1) _ (by omega) ⟨fun c hc1 => ?_, fun q hq => ?_, fun x hx => ?_, fun o k o1 o2 => ?_⟩
      · rw [ms_ne (by omega), hc, ctl_app, ctl_one]
        by_cases e : c = 8 * s + j
        · subst e
          rw [ms_eq, if_pos rfl]
          congr 1
        · rw [ms_sl e, if_neg (fun q => e q.symm)]
          exact hm.1 c hc1
      · rw [hlen2] at hq
        rw [hc]
        by_cases e : q = (cl at_ f).length
        · subst e
          rw [ms_eq]
          simp [List.getD]
        · rw [ms_sl (by omega), ms_ne (by omega), hm.2.1 q (by omega)]
          simp [List.getD, List.getElem?_append_left (show q < (cl at_ f).length by omega)]
      · rw [ms_sl (by omega), ms_ne (by omega)]
        exact hm.2.2.1 x hx
      · rw [ms_ne o2, ms_ne o1]
        exact hm.2.2.2 o k o1 o2
/-- the shift, so far: rows below k, and of row k - 1 the first i places -/
def SHF (mem : TMem) (k i : Nat) (m : TMem) : Prop := (∀ t, t < 16 → m 199 t = if t + 1 < k ∨ (t + 1 = k ∧ 0 < i) then mem 199 (t + 1) else mem 199 t) ∧ (∀ t u, t < 16 → u < 40 → m 200 (40 * t + u) = if t + 1 < k ∨ (t + 1 = k ∧ u + 1 < i) then mem 200 (40 * (t + 1) + u) else mem 200 (40 * t + u)) ∧ ∀ o x, ¬ o = 199 → ¬ o = 200 → m o x = mem o x
set_option maxRecDepth 100000 in
theorem Shf_loop {κ : TCx} {post0 : Option TV → TMem → Prop} (hC : TC κ RX11 cX11_teach 4 0 0) (hT : TR κ (some .int) post0) {mem : TMem} (next : ∀ m, SHF mem 16 0 m → WT κ 99 [some (.inr 187), some (.inl 0), some (.inl 0), none] [] (mset m 187 16 (m 187 16 - 1))) : ∀ i k m, i + k = 16 → 1 ≤ k → SHF mem k 0 m → WT κ 21 [some (.inr 187), some (.inl (nI k)), none, none] [] m := by
  have inner : ∀ k, 1 ≤ k → k < 16 → (∀ m, SHF mem (k + 1) 0 m → WT κ 21 [some (.inr 187), some (.inl (nI k + 1)), none, none] [] m) → ∀ i j m, i + j = 40 → SHF mem k (j + 1) m → WT κ 43 [some (.inr 187), some (.inl (nI k)), some (.inl (nI j)), none] [] m := by
    intro k hk1 hk next i
    have ek : nI k - 1 = nI (k - 1) := by
      obtain ⟨k2, rfl⟩ : ∃ k2, k = k2 + 1 := ⟨k - 1, by omega⟩
      rw [nI_pred]; rfl
    induction i with
    | zero =>
      intro j m hj hm
      have : j = 40 := by omega
      subst this
      refine K_X11_teach_43 hC hT m _ _ ⟨fun _ => next m ⟨fun t ht => ?_, fun t u ht hu => ?_, hm.2.2⟩, fun q => absurd (by decide) q⟩
      · rw [hm.1 t ht]
        by_cases z : t + 1 < k + 1
        · rw [if_pos (by omega), if_pos (by omega)]
        · rw [if_neg (by omega), if_neg (by omega)]
      · rw [hm.2.1 t u ht hu]
        by_cases z : t + 1 < k + 1
        · rw [if_pos (by omega), if_pos (by omega)]
        · rw [if_neg (by omega), if_neg (by omega)]
    | succ i ih =>
      intro j m hj hm
      have e1 : (40 : Int32) * nI k + nI j = nI (40 * k + j) := by rw [show (40 : Int32) = nI 40 from rfl, pk_mul, nI_add]
      have e2 : (40 : Int32) * nI (k - 1) + nI j = nI (40 * (k - 1) + j) := by rw [show (40 : Int32) = nI 40 from rfl, pk_mul, nI_add]
      refine K_X11_teach_43 hC hT m _ _ ⟨fun q => absurd q (nI_ge (b := 40) (by omega) (by omega)), fun _ => ?_⟩
      rw [ek, e1, e2, nI_clamp (by omega), nI_clamp (by omega), nI_1]
      refine ⟨vp_in_nI (by omega) (by omega), vp_in_nI (by omega) (by omega), ih (j + 1) _ (by omega) ⟨fun t ht => ?_, fun t u ht hu => ?_, fun o x o1 o2 => by rw [ms_ne o2]; exact hm.2.2 o x o1 o2⟩⟩
      · rw [ms_ne (by omega), hm.1 t ht]
        by_cases z : t + 1 < k ∨ t + 1 = k
        · rw [if_pos (by omega), if_pos (by omega)]
        · rw [if_neg (by omega), if_neg (by omega)]
      · have hsrc : m 200 (40 * k + j) = mem 200 (40 * k + j) := by rw [hm.2.1 k j (by omega) (by omega), if_neg (by omega)]
        rw [hsrc]
        by_cases z : t + 1 = k ∧ u = j
        · obtain ⟨z1, rfl⟩ := z
          have ht1 : t = k - 1 := by omega
          subst ht1
          rw [ms_eq, if_pos (by omega), show k - 1 + 1 = k by omega]
        · rw [ms_sl (by omega), hm.2.1 t u ht hu]
          by_cases y : t + 1 < k ∨ (t + 1 = k ∧ u + 1 < j + 1)
          · rw [if_pos y, if_pos (by omega)]
          · rw [if_neg y, if_neg (by omega)]
  intro i
  induction i with
  | zero =>
    intro k m hk hk1 hm
    have : k = 16 := by omega
    subst this
    exact K_X11_teach_21 hC hT m _ ⟨fun _ => next m hm, fun q => absurd (by decide) q⟩
  | succ i ih =>
    intro k m hk hk1 hm
    have ek : nI k - 1 = nI (k - 1) := by
      obtain ⟨k2, rfl⟩ : ∃ k2, k = k2 + 1 := ⟨k - 1, by omega⟩
      rw [nI_pred]; rfl
    refine K_X11_teach_21 hC hT m _ ⟨fun q => absurd q (nI_ge (b := 16) (by omega) (by omega)), fun _ => ?_⟩
    rw [ek, nI_clamp (by omega), nI_clamp (by omega)]
    refine ⟨vp_in_nI (by omega) (by omega), vp_in_nI (by omega) (by omega), inner k hk1 (by omega) (fun m2 h2 => by rw [nI_1]; exact ih (k + 1) m2 (by omega) (by omega) h2) 40 0 _ (by omega) ⟨fun t ht => ?_, fun t u ht hu => ?_, fun o x o1 o2 => by rw [ms_ne o1]; exact hm.2.2 o x o1 o2⟩⟩
    · have hsrc : m 199 k = mem 199 k := by rw [hm.1 k (by omega), if_neg (by omega)]
      rw [hsrc]
      by_cases z : t + 1 = k
      · have ht1 : t = k - 1 := by omega
        subst ht1
        rw [ms_eq, if_pos (by omega), show k - 1 + 1 = k by omega]
      · rw [ms_sl (by omega), hm.1 t ht]
        by_cases y : t + 1 < k
        · rw [if_pos (by omega), if_pos (by omega)]
        · rw [if_neg (by omega), if_neg (by omega)]
    · rw [ms_ne (by omega), hm.2.1 t u ht hu]
      by_cases y : t + 1 < k
      · rw [if_pos (by omega), if_pos (by omega)]
      · rw [if_neg (by omega), if_neg (by omega)]
