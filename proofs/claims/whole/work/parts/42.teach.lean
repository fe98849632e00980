/-- behind a teaching: the kept ones, the new one the last of them -/
theorem teach_kp {k K nx : Nat} {mem ms m2 : TMem} {N base many : Nat → Nat} {l : List Nat} (hK : K ≤ 15) (hx : nx < 16) (hl40 : l.length ≤ 40) (hl : ∀ c ∈ l, c < 48)
    (hA : ∀ i, i < K → many i ≤ 40 ∧ ms 199 i = nI (many i) ∧ (∀ q, q < many i → ∃ c, c < 48 ∧ ms 200 (40 * i + q) = nI c) ∧ ∀ c, c < 48 → mem (165 + (nx + 16 - K + i) % 16) c = nI (hc (fun q => ms 200 (40 * i + q)) (nI c) (many i)))
    (hN : ∀ c, c < 48 → N c = base c + sm (fun i => hc (fun q => ms 200 (40 * i + q)) (nI c) (many i)) K) (hB : ∀ s, s < 6 → sm (fun j => N (8 * s + j)) 8 ≤ 40 * k)
    (g1 : m2 156 3 = nI (K + 1)) (g2 : m2 187 16 = nI (K + 1)) (g3 : m2 156 2 = nI ((nx + 1) % 16)) (g4 : ∀ i, i < K → m2 199 i = ms 199 i) (g5 : m2 199 K = nI l.length) (g6 : ∀ x, x < 40 * K → m2 200 x = ms 200 x) (g7 : ∀ q, q < l.length → m2 200 (40 * K + q) = nI (l.getD q 0)) (g8 : ∀ c, c < 48 → m2 (165 + nx) c = nI (ctl c l)) (g9 : ∀ r c, r < 16 → ¬ r = nx → m2 (165 + r) c = mem (165 + r) c) (g10 : ∀ s j, s < 6 → j < 8 → m2 (158 + s) j = nI (N (8 * s + j) + ctl (8 * s + j) l)) (g11 : ∀ c, c < 48 → m2 198 c = nI (N c + ctl c l)) : R_kp m2 (40 * (k + 1)) := by
  have hnew : ∀ c, c < 48 → hc (fun q => m2 200 (40 * K + q)) (nI c) l.length = ctl c l := fun c hc1 => hc_ctl l g7 hl c hc1
  have hold : ∀ i c, i < K → hc (fun q => m2 200 (40 * i + q)) (nI c) (many i) = hc (fun q => ms 200 (40 * i + q)) (nI c) (many i) := fun i c hi => by
    have hm := (hA i hi).1
    have : ∀ t, t ≤ 40 → hc (fun q => m2 200 (40 * i + q)) (nI c) t = hc (fun q => ms 200 (40 * i + q)) (nI c) t := by
      intro t
      induction t with
      | zero => intro _; rfl
      | succ t ih =>
        intro ht
        show hc _ _ t + (if m2 200 (40 * i + t) = nI c then 1 else 0) = hc _ _ t + (if ms 200 (40 * i + t) = nI c then 1 else 0)
        have e : m2 200 (40 * i + t) = ms 200 (40 * i + t) := g6 _ (by
          have : 40 * i + 40 ≤ 40 * K := by omega
          omega)
        rw [ih (by omega), e]
    exact this _ hm
  obtain ⟨my, my1, my2⟩ : ∃ my : Nat → Nat, (∀ i, i < K → my i = many i) ∧ my K = l.length := ⟨fun i => if i < K then many i else l.length, fun i hi => if_pos hi, if_neg (by omega)⟩
  have hS : ∀ c, c < 48 → base c + sm (fun i => hc (fun q => m2 200 (40 * i + q)) (nI c) (my i)) (K + 1) = N c + ctl c l := fun c hc1 => by
    show base c + (sm (fun i => hc (fun q => m2 200 (40 * i + q)) (nI c) (my i)) K + hc (fun q => m2 200 (40 * K + q)) (nI c) (my K)) = _
    rw [my2, hnew c hc1, hN c hc1]
    have : sm (fun i => hc (fun q => m2 200 (40 * i + q)) (nI c) (my i)) K = sm (fun i => hc (fun q => ms 200 (40 * i + q)) (nI c) (many i)) K := sm_congr (fun i hi => by
      rw [my1 i hi]; exact hold i c hi)
    rw [this]
    omega
  refine ⟨K + 1, (nx + 1) % 16, my, base, by omega, Nat.mod_lt _ (by omega), g1, g2, g3, fun i hi => ?_, fun s j hs hj => ?_, fun s hs => ?_⟩
  · by_cases z : i < K
    · obtain ⟨z1, z2, z3, z4⟩ := hA i z
      have er : ((nx + 1) % 16 + 16 - (K + 1) + i) % 16 = (nx + 16 - K + i) % 16 := by omega
      refine ⟨by rw [my1 i z]; exact z1, by rw [my1 i z, g4 i z]; exact z2, fun q hq => ?_, fun c hc1 => ?_⟩
      · rw [my1 i z] at hq
        obtain ⟨c, y1, y2⟩ := z3 q hq
        exact ⟨c, y1, by rw [g6 _ (by omega)]; exact y2⟩
      · rw [er, my1 i z, hold i c z, g9 _ c (Nat.mod_lt _ (by omega)) (by omega)]
        exact z4 c hc1
    · have hiK : i = K := by omega
      subst hiK
      have er : ((nx + 1) % 16 + 16 - (i + 1) + i) % 16 = nx := by omega
      refine ⟨by rw [my2]; exact hl40, by rw [my2]; exact g5, fun q hq => ?_, fun c hc1 => ?_⟩
      · rw [my2] at hq
        refine ⟨l.getD q 0, hl _ ?_, g7 q hq⟩
        have e : l.getD q 0 = l[q] := by simp [List.getD, hq]
        rw [e]
        exact List.getElem_mem hq
      · rw [er, my2, hnew c hc1]
        exact g8 c hc1
  · rw [hS (8 * s + j) (by omega), g11 (8 * s + j) (by omega), g10 s j hs hj]
    exact ⟨rfl, rfl⟩
  · have h1 : sm (fun j => base (8 * s + j) + sm (fun i => hc (fun q => m2 200 (40 * i + q)) (nI (8 * s + j)) (my i)) (K + 1)) 8 = sm (fun j => N (8 * s + j) + ctl (8 * s + j) l) 8 := sm_congr (fun j hj => hS (8 * s + j) (by omega))
    rw [h1, sm_add]
    have := hB s hs
    have := ctl_sum8 s l
    omega
