theorem imin_nI {a b : Nat} (ha : a < 2 ^ 31) (hb : b < 2 ^ 31) : imin (nI a) (nI b) = nI (min a b) := by
  unfold imin
  by_cases h : b < a
  · rw [if_pos (nI_lt h ha), show min a b = b by omega]
  · rw [if_neg (fun q => h ((nI_ltI hb ha).mp q)), show min a b = a by omega]
theorem lesser_nI {a b : Nat} (ha : a < 2 ^ 31) (hb : b < 2 ^ 31) : F_X11_lesser (nI a) (nI b) = nI (min a b) := by
  unfold F_X11_lesser
  by_cases h : b ≤ a
  · have : ¬ nI a < nI b := nI_nlt h ha
    first | rw [if_pos (nI_le h ha), show min a b = b by omega] | rw [if_neg this, show min a b = b by omega]
  · have h2 : nI a < nI b := nI_lt (by omega) hb
    first | rw [if_neg (fun q => h ((nI_leI hb ha).mp q)), show min a b = a by omega] | rw [if_pos h2, show min a b = a by omega]
def LRN (N : Nat → Nat) (at_ : Nat → Option Nat) (nx : Nat) (mem : TMem) (f : Nat) (m : TMem) : Prop := (∀ s j, s < 6 → j < 8 → m (158 + s) j = nI (N (8 * s + j) + ctl (8 * s + j) (cl at_ f))) ∧ (∀ c, c < 48 → m (165 + nx) c = nI (ctl c (cl at_ f))) ∧ ∀ o k, (o < 158 ∨ 164 ≤ o) → ¬ o = 165 + nx → m o k = mem o k
set_option maxRecDepth 100000 in
theorem C_learn (l : Launch) {mem : TMem} {N : Nat → Nat} {at_ : Nat → Option Nat} {n K nx : Nat} (hn : n ≤ 40) (hK : K ≤ 16) (hx : nx < 16) (e1 : mem 1 2 = nI n) (e3 : mem 156 3 = nI K) (e2 : mem 156 2 = nI nx) (hN : ∀ s j, s < 6 → j < 8 → mem (158 + s) j = nI (N (8 * s + j)))
    (hat : ∀ f, f < n → (at_ f = none ∧ mem 2 f = -1) ∨ ∃ sl s j, sl < 96 ∧ s < 6 ∧ j < 8 ∧ at_ f = some (8 * s + j) ∧ mem 2 f = nI j ∧ mem 153 f = nI sl ∧ mem 109 sl = nI s) :
    TMi l i_X4_learn 1 23 [.inr 156, .inr 1, .inr 108] mem (fun x m => x = nI (cl at_ n).length ∧ ∃ m3, LRN N at_ nx mem n m3 ∧ m = mset (mset m3 156 2 (nI ((nx + 1) % 16))) 156 3 (nI (min (K + 1) 16))) := by
  refine tw_met (by decide) (Nat.le_of_ble_eq_true rfl) (fun κ hl hC hT => ?_)
  have hshp : shp[165 + nx]? = some (.inr (.inl 48)) := shr_164 nx hx
  have key : ∀ i f m, i + f = n → LRN N at_ nx mem f m → WT κ 21 [some (.inr 156), some (.inr 1), some (.inr 108), some (.inr (165 + nx)), some (.inl (nI (cl at_ f).length)), some (.inl (nI f)), none, none] [] m := by
    intro i
    induction i with
    | zero =>
      intro f m hf hm
      have : f = n := by omega
      subst this
      have r1 : m 1 2 = nI f := by rw [hm.2.2 1 2 (by omega) (by omega)]; exact e1
      have r2 : m 156 2 = nI nx := by rw [hm.2.2 156 2 (by omega) (by omega)]; exact e2
      have r3 : m 156 3 = nI K := by rw [hm.2.2 156 3 (by omega) (by omega)]; exact e3
      refine K_X4_learn_21 hC hT m _ hshp _ _ ⟨fun _ => ?_, fun q => absurd (by rw [r1]; exact nI_le (Nat.le_refl _) (by omega)) q⟩
      have er : (nI nx + 1 : Int32) - (nI nx + 1) / 16 * 16 = nI ((nx + 1) % 16) := by
        rw [nI_1]
        exact pk_rem (d := 16) (by omega) (by omega) (by omega)
      have em : imin (nI K + 1) 16 = nI (min (K + 1) 16) := by
        rw [nI_1]
        exact imin_nI (a := K + 1) (b := 16) (by omega) (by omega)
      rw [r2, er, r3, em]
      exact ⟨_, rfl, rfl, m, hm, rfl⟩
    | succ i ih =>
      intro f m hf hm
      have hfn : f < n := by omega
      have r1 : m 1 2 = nI n := by rw [hm.2.2 1 2 (by omega) (by omega)]; exact e1
      have rm : m 2 f = mem 2 f := hm.2.2 2 f (by omega) (by omega)
      have ef : (nI f).toNatClampNeg = f := nI_clamp (by omega)
      refine K_X4_learn_21 hC hT m _ hshp _ _ ⟨fun q => absurd q (by rw [r1]; exact nI_ge hfn (by omega)), fun _ => ⟨vp_in_nI (by omega) (by omega), ?_⟩⟩
      rw [ef, rm]
      rcases hat f hfn with ⟨z1, z2⟩ | ⟨sl, s, j, u1, u2, u3, u4, u5, u6, u7⟩
      · refine ⟨fun _ => ?_, fun q => absurd z2 q⟩
        have hc := cl_none z1
        have := ih (f + 1) m (by omega) ⟨by rw [hc]; exact hm.1, by rw [hc]; exact hm.2.1, hm.2.2⟩
        rw [hc] at this
        rw [nI_1]
        exact this
      · have ne : ¬ mem 2 f = -1 := fun q => by
          rw [u5] at q
          have := congrArg Int32.toInt q
          rw [nI_toInt (by omega)] at this
          have e : (-1 : Int32).toInt = -1 := by decide
          omega
        have r153 : m 153 f = nI sl := by rw [hm.2.2 153 f (by omega) (by omega)]; exact u6
        have r109 : m 109 sl = nI s := by rw [hm.2.2 109 sl (by omega) (by omega)]; exact u7
        have e8 : nI s * 8 + nI j = nI (8 * s + j) := by rw [show (8 : Int32) = nI 8 from rfl, pk_mul, nI_add, Nat.mul_comm]
        have es : (nI s).toNatClampNeg = s := nI_clamp (by omega)
        have ej : (nI j).toNatClampNeg = j := nI_clamp (by omega)
        have esl : (nI sl).toNatClampNeg = sl := nI_clamp (by omega)
        have e48 : (nI (8 * s + j)).toNatClampNeg = 8 * s + j := nI_clamp (by omega)
        refine ⟨fun q => absurd q ne, fun _ => ⟨⟨vp_in_nI (by omega) (by omega), by rw [ef, r153]; exact vp_in_nI u1 (by omega)⟩, ?_⟩⟩
        rw [r153, esl, r109, u5, e8, es, ej, e48]
        refine ⟨vp_in_nI u2 (by omega), vp_in_nI u3 (by omega), vp_in_nI (by omega) (by omega), ?_⟩
        have hc := cl_some u4
        have hv1 := hm.1 s j u2 u3
        have hv2 := hm.2.1 (8 * s + j) (by omega)
        have hlen : (cl at_ (f + 1)).length = (cl at_ f).length + 1 := by rw [hc, List.length_append, List.length_singleton]
        rw [ms_ne (show ¬ 165 + nx = 158 + s by omega), hv1, hv2, nI_1, nI_1, nI_1, nI_1, ← hlen]
        refine ih (f + 1) _ (by omega) ⟨fun s2 j2 w1 w2 => ?_, fun c hc1 => ?_, fun o k o1 o2 => ?_⟩
        · rw [ms_ne (by omega), hc, ctl_app, ctl_one]
          by_cases e : s2 = s ∧ j2 = j
          · obtain ⟨rfl, rfl⟩ := e
            rw [ms_eq, if_pos rfl]
            congr 1
          · rw [if_neg (by omega)]
            by_cases es2 : s2 = s
            · subst es2; rw [ms_sl (by omega)]; exact hm.1 s2 j2 w1 w2
            · rw [ms_ne (by omega)]; exact hm.1 s2 j2 w1 w2
        · rw [hc, ctl_app, ctl_one]
          by_cases e : c = 8 * s + j
          · subst e
            rw [ms_eq, if_pos rfl]
          · rw [ms_sl e, ms_ne (by omega), if_neg (fun q => e q.symm)]
            exact hm.2.1 c hc1
        · rw [ms_ne o2, ms_ne (by omega)]
          exact hm.2.2 o k o1 o2
  refine K_X4_learn_0 hC hT mem ⟨by rw [e2]; exact vp_in_nI hx (by omega), ?_⟩
  rw [e2, nI_clamp (by omega)]
  refine ⟨_, C_fillT _ hshp (by omega), ?_⟩
  rintro m rfl
  exact key n 0 _ (by omega) ⟨fun s j hs hj => by rw [mfill_o (by omega)]; exact hN s j hs hj, fun c hc1 => mfill_at hc1, fun o k o1 o2 => mfill_o o2⟩
