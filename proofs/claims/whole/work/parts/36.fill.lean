/-! Arrays.fill over the toy world -/
theorem mfill_at {mem : TMem} {a n : Nat} {v : Int32} {k : Nat} (h : k < n) : mfill mem a n v a k = v := by unfold mfill; rw [if_pos rfl]; exact if_pos h
theorem mfill_o {mem : TMem} {a n : Nat} {v : Int32} {o k : Nat} (h : ¬ o = a) : mfill mem a n v o k = mem o k := by unfold mfill; rw [if_neg h]
set_option maxRecDepth 100000 in
theorem C_fillT (l : Launch) {mem : TMem} {a n : Nat} {v : Int32} (ha : shp[a]? = some (.inr (.inl n))) (hn : n < 2 ^ 31) : TMv l i_J7_fill_53178 0 0 [.inr a, .inl v] mem (fun m => m = mfill mem a n v) := by
  refine tw_met (by decide) (Nat.le_of_ble_eq_true rfl) (fun κ hl hC hT => ?_)
  have key : ∀ j k m, j + k = n → m = mfill mem a k v → WT κ 5 [some (.inr a), some (.inl v), some (.inl (nI k)), some (.inl (nI n))] [] m := by
    intro j
    induction j with
    | zero =>
      intro k m hk hm
      have : k = n := by omega
      subst this
      exact K_fill_5 hC hT a k ha m _ _ _ ⟨fun _ => ⟨rfl, hm⟩, fun q => absurd (nI_le (Nat.le_refl _) hn) q⟩
    | succ j ih =>
      intro k m hk hm
      refine K_fill_5 hC hT a n ha m _ _ _ ⟨fun q => absurd q (nI_ge (by omega) hn), fun _ => ⟨vp_in_nI (by omega) hn, ?_⟩⟩
      rw [nI_1, nI_clamp (by omega)]
      refine ih (k + 1) _ (by omega) ?_
      rw [hm]
      funext o
      unfold mset mfill
      by_cases ho : o = a
      · subst ho
        simp only [if_pos]
        exact upd_fill (f := mem o)
      · simp only [if_neg ho]
  exact K_fill_0 hC hT a n ha mem _ (key n 0 mem (by omega) (by
    funext o
    unfold mfill
    by_cases ho : o = a
    · subst ho; rw [if_pos rfl]; exact (fill0 (f := mem o)).symm
    · rw [if_neg ho]))
