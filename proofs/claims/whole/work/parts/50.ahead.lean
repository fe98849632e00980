/-! READING of the class: ahead -/
theorem BE_far {mem : TMem} {d : PD} (hd : DX mem d) {m a : Nat} (ha : a < 9) : BE d m a ≤ 1000000 := by
  cases m with
  | zero => rw [BE_0]; exact (hd.jo a 0 ha (by omega)).2.2
  | succ m => rw [BE_s]; exact mn_far _ _
def SBK (d : PD) (w v m0 : Nat) (mem : TMem) (c : Nat) (m : TMem) : Prop := (∀ j, j < dln d w v → m (83 + (2 * w + v)) j = nI (ON d (if j < c then m0 + 1 else m0) w v j)) ∧ ∀ o j, ¬ o = 83 + (2 * w + v) → m o j = mem o j
theorem sh_on : ∀ j, j < 16 → shp[83 + j]? = some (.inr (.inl 4)) := fun j hj => of_decide_eq_true (List.all_eq_true.mp (show (List.range 16).all (fun j => decide (shp[83 + j]? = some (.inr (.inl 4)))) = true by decide +kernel) j (List.mem_range.mpr hj))
set_option maxRecDepth 100000 in
theorem C_stepBack (l : Launch) {mem : TMem} {d : PD} {w v f m0 : Nat} (hd : DX mem d) (hw : w < dW d) (hv : v < dwy d w) (hf : f + (m0 + 1) = dn d) (hon : ∀ j, j < dln d w v → mem (83 + (2 * w + v)) j = nI (ON d m0 w v j)) : TMi l i_X6_stepBack 1 23 [.inr 40, .inr 1, .inr 10, .inl (nI w), .inl (nI v), .inl (nI f), .inl (nI (BE d m0 (w + 1)))] mem (fun x m => x = nI (ON d (m0 + 1) w v 0) ∧ SBK d w v m0 mem (dln d w v) m) := by
  refine tw_met (by decide) (Nat.le_of_ble_eq_true rfl) (fun κ hl hC hT => ?_)
  have h40 := hd.n40
  have h8 := hd.w8
  have hwy := hd.wy w hw
  have hln := hd.ln w v hw hv
  have hsh := sh_on (2 * w + v) (by omega)
  have hBE : BE d m0 (w + 1) ≤ 1000000 := BE_far hd (by omega)
  have key : ∀ i c m, i + c = dln d w v → SBK d w v m0 mem c m → WT κ 25 [none, some (.inr 1), some (.inr 10), some (.inl (nI w)), some (.inl (nI v)), some (.inl (nI f)), some (.inl (nI (BE d m0 (w + 1)))), some (.inr (83 + (2 * w + v))), some (.inl (nI (dln d w v))), some (.inl (nI c)), none, none] [] m := by
    intro i
    induction i with
    | zero =>
      intro c m hc hm
      have : c = dln d w v := by omega
      subst this
      refine K_X6_stepBack_25 hC hT m _ _ _ _ _ hsh _ _ ⟨fun _ => ⟨_, rfl, ?_, hm⟩, fun q => absurd (nI_le (Nat.le_refl _) (by omega)) q⟩
      rw [hm.1 0 (by omega), if_pos (by omega)]
    | succ i ih =>
      intro c m hc hm
      have hdm : DX m d := hd.of (fun o ho => funext fun j => hm.2 o j (by omega))
      obtain ⟨g1, g2⟩ := hdm.sd w v c hw hv (by omega)
      obtain ⟨c1, c2, c3⟩ := hdm.co (dsd d w v c) f g1 (by omega)
      have gs : vp_in (nI (2 * w + v)) 16 ∧ vp_in (nI c) 4 := ⟨vp_in_nI (by omega) (by omega), vp_in_nI (by omega) (by omega)⟩
      have nx : ∀ x, x = nI (ON d (m0 + 1) w v c) → WT κ 25 [none, some (.inr 1), some (.inr 10), some (.inl (nI w)), some (.inl (nI v)), some (.inl (nI f)), some (.inl (nI (BE d m0 (w + 1)))), some (.inr (83 + (2 * w + v))), some (.inl (nI (dln d w v))), some (.inl (nI (c + 1))), none, none] [] (mset m (83 + (2 * w + v)) c x) := fun x hx => by
        refine ih (c + 1) _ (by omega) ⟨fun j hj => ?_, fun o j ho => by rw [ms_ne ho]; exact hm.2 o j ho⟩
        by_cases e : j = c
        · subst e
          rw [ms_eq, if_pos (by omega), hx]
        · rw [ms_sl e, hm.1 j hj]
          by_cases e2 : j < c
          · rw [if_pos e2, if_pos (by omega)]
          · rw [if_neg e2, if_neg (by omega)]
      have eON := ON_s d m0 w v c
      rw [show dn d - (m0 + 1) = f by omega] at eON
      refine K_X6_stepBack_25 hC hT m _ _ _ _ _ hsh _ _ ⟨fun q => absurd q (nI_ge (by omega) (by omega)), fun _ => ?_⟩
      unfold G_X5_soundOf
      rw [sm_ix, nI_clamp (n := 2 * w + v) (by omega), nI_1 c, nI_clamp (n := c) (by omega), nI_clamp (n := c + 1) (by omega), g2, c2, hdm.st, hm.1 c (by omega), if_neg (show ¬ c < c by omega), nI_leI (by omega) (by omega)]
      refine ⟨fun q => ⟨gs.2, gs, c1, nx _ ?_⟩, fun q => ⟨vp_in_nI (by omega) (by omega), gs.2, gs, c1, nx _ ?_⟩⟩
      · rw [sv hBE (ON_far _ _ _ _ _) hd.s20 c3, eON, if_neg (by omega)]
      · rw [hm.1 (c + 1) (by omega), if_neg (show ¬ c + 1 < c by omega), sv (ON_far _ _ _ _ _) (ON_far _ _ _ _ _) hd.s20 c3, eON, if_pos (by omega)]
  refine K_X6_stepBack_0 hC hT mem _ _ _ _ ?_
  unfold G_X5_lengthOf
  rw [sm_ix, nI_clamp (n := 2 * w + v) (by omega), hln.2.2]
  refine ⟨vp_in_nI (by omega) (by omega), vp_in_nI (by omega) (by omega), key (dln d w v) 0 mem (by omega) ⟨fun j hj => ?_, fun _ _ _ => rfl⟩⟩
  rw [if_neg (by omega)]
  exact hon j hj
set_option maxRecDepth 100000 in
theorem C_cheapestBehind (l : Launch) {mem : TMem} {d : PD} {a f : Nat} {g : Nat → Nat} {p3 : Int32} (hd : DX mem d) (ha : a ≤ dW d) (hf : f < 40) (hg : ∀ x, x < dW d → mem (42 + f) x = nI (g x) ∧ g x ≤ 1000000) : TMi l i_X6_cheapestBehind 2 45 [.inr 40, .inr 10, .inl (wi a), .inl (nI f), .inl p3] mem (fun x m => x = nI (mn (dW d) (fun x => if nI x = p3 then 1000000 else dJ d a (x + 1) + g x)) ∧ m = mem) := by
  refine tw_met (by decide) (Nat.le_of_ble_eq_true rfl) (fun κ hl hC hT => ?_)
  have h8 := hd.w8
  have key : ∀ i c, i + c = dW d → WT κ 7 [some (.inr 40), some (.inr 10), some (.inl (wi a)), some (.inl (nI f)), some (.inl p3), some (.inl (nI (mn c (fun x => if nI x = p3 then 1000000 else dJ d a (x + 1) + g x)))), some (.inl (nI c))] [] mem := by
    intro i
    induction i with
    | zero =>
      intro c hc
      have : c = dW d := by omega
      subst this
      refine K_X6_cheapestBehind_7 hC hT mem _ _ _ _ _ ?_
      rw [hd.wd]
      exact ⟨fun _ => ⟨_, rfl, rfl, rfl⟩, fun q => absurd (nI_le (Nat.le_refl _) (by omega)) q⟩
    | succ i ih =>
      intro c hc
      have hmf := mn_far c (fun x => if nI x = p3 then 1000000 else dJ d a (x + 1) + g x)
      have nx := ih (c + 1) (by omega)
      refine K_X6_cheapestBehind_7 hC hT mem _ _ _ _ _ ?_
      rw [hd.wd, nI_1 c]
      refine ⟨fun q => absurd q (nI_ge (by omega) (by omega)), fun _ => ⟨fun q => ?_, fun q => ?_⟩⟩
      · have e : mn (c + 1) (fun x => if nI x = p3 then 1000000 else dJ d a (x + 1) + g x) = mn c (fun x => if nI x = p3 then 1000000 else dJ d a (x + 1) + g x) := by
          show min (mn c _) (if nI c = p3 then 1000000 else dJ d a (c + 1) + g c) = _
          rw [if_pos q]
          omega
        rw [e] at nx
        exact nx
      · obtain ⟨j1, j2, j3⟩ := hd.jo a (c + 1) (by omega) (by omega)
        obtain ⟨g1, g2⟩ := hg c (by omega)
        rw [wi_s] at j1 j2
        have e : mn (c + 1) (fun x => if nI x = p3 then 1000000 else dJ d a (x + 1) + g x) = min (mn c (fun x => if nI x = p3 then 1000000 else dJ d a (x + 1) + g x)) (dJ d a (c + 1) + g c) := by
          show min (mn c _) (if nI c = p3 then 1000000 else dJ d a (c + 1) + g c) = _
          rw [if_neg q]
        rw [e] at nx
        rw [j2, nI_clamp (n := f) (by omega), nI_clamp (n := c) (by omega), g1, nI_add, imin_nI (by omega) (by omega)]
        exact ⟨j1, vp_in_nI (by omega) (by omega), vp_in_nI (by omega) (by omega), nx⟩
  exact K_X6_cheapestBehind_0 hC hT mem _ _ _ (key (dW d) 0 (by omega))
theorem mn_m1 {k : Nat} {f : Nat → Nat} (hk : k ≤ 100) : mn k (fun x => if nI x = -1 then 1000000 else f x) = mn k f := mn_congr (fun i hi => if_neg (nI_nm1 (by omega)))
def LK (d : PD) (mem : TMem) (m0 w v : Nat) (m : TMem) : Prop := (∀ f x, f < dn d → dn d - m0 ≤ f → x < dW d → m (42 + f) x = nI (AH d (dn d - f) x)) ∧ (∀ x, x < w → m (42 + (dn d - m0 - 1)) x = nI (AH d (m0 + 1) x)) ∧
  (∀ x u k, x < dW d → u < dwy d x → k < dln d x u → m (83 + (2 * x + u)) k = nI (ON d (if x < w ∨ (x = w ∧ u < v) then m0 + 1 else m0) x u k)) ∧ ∀ o j, (o < 42 ∨ 99 ≤ o) → m o j = mem o j
theorem LK.dx {d : PD} {mem : TMem} {m0 w v : Nat} {m : TMem} (h : LK d mem m0 w v m) (hd : DX mem d) : DX m d := hd.of (fun o ho => funext fun j => h.2.2.2 o j (by omega))
set_option maxRecDepth 100000 in
theorem C_lookAhead6 (l : Launch) {mem : TMem} {d : PD} (hd : DX mem d) : TMv l i_X6_lookAhead 3 71 [.inr 40, .inr 1, .inr 10] mem (fun m => (∀ f x, f < dn d → x < dW d → m (42 + f) x = nI (AH d (dn d - f) x)) ∧ ∀ o j, (o < 42 ∨ 99 ≤ o) → m o j = mem o j) := by
  refine tw_met (by decide) (Nat.le_of_ble_eq_true rfl) (fun κ hl hC hT => ?_)
  have h40 := hd.n40
  have h8 := hd.w8
  have key107 : ∀ f m0 w b, f + (m0 + 1) = dn d → w < dW d → (∀ m, LK d mem m0 (w + 1) 0 m → WT κ 56 [some (.inr 40), some (.inr 1), some (.inr 10), some (.inl (nI f)), some (.inl b), some (.inl (nI (w + 1))), none, none] [] m) → ∀ i v m, i + v = dwy d w → LK d mem m0 w v m → m (42 + f) w = nI (mn v (fun u => ON d (m0 + 1) w u 0)) → WT κ 107 [some (.inr 40), some (.inr 1), some (.inr 10), some (.inl (nI f)), some (.inl b), some (.inl (nI w)), some (.inl (nI (BE d m0 (w + 1)))), some (.inl (nI v))] [] m := by
    intro f m0 w b hf hw next i
    have hwy := hd.wy w hw
    induction i with
    | zero =>
      intro v m hi hm ha
      have : v = dwy d w := by omega
      subst this
      refine K_X6_lookAhead_107 hC hT m _ _ _ _ _ ?_
      rw [nI_clamp (n := w) (by omega), ((hm.dx hd).wy w hw).2.2, nI_1 w]
      refine ⟨vp_in_nI (by omega) (by omega), fun _ => next m ⟨hm.1, fun x hx => ?_, fun x u k q1 q2 q3 => ?_, hm.2.2.2⟩, fun q => absurd (nI_le (Nat.le_refl _) (by omega)) q⟩
      · by_cases e : x = w
        · subst e
          rw [show dn d - m0 - 1 = f by omega, ha]
          rfl
        · exact hm.2.1 x (by omega)
      · rw [hm.2.2.1 x u k q1 q2 q3]
        congr 2
        by_cases e : x < w ∨ (x = w ∧ u < dwy d w)
        · rw [if_pos e, if_pos (by omega)]
        · rw [if_neg e, if_neg]
          intro q
          apply e
          rcases q with q | q
          · by_cases e2 : x = w
            · subst e2; exact Or.inr ⟨rfl, q2⟩
            · exact Or.inl (by omega)
          · omega
    | succ i ih =>
      intro v m hi hm ha
      have hdm := hm.dx hd
      have hlv : ∀ x u, x < dW d → u < dwy d x → 2 * x + u < 16 := fun x u q1 q2 => by have := (hd.wy x q1).2.1; omega
      refine K_X6_lookAhead_107 hC hT m _ _ _ _ _ ?_
      rw [nI_clamp (n := w) (by omega), (hdm.wy w hw).2.2, nI_clamp (n := f) (by omega), ha, nI_1 v]
      refine ⟨vp_in_nI (by omega) (by omega), fun q => absurd q (nI_ge (by omega) (by omega)), fun _ => ⟨vp_in_nI (by omega) (by omega), vp_in_nI (by omega) (by omega), _, C_stepBack _ hdm hw (by omega) hf (fun j hj => ?_), ?_⟩⟩
      · rw [hm.2.2.1 w v j hw (by omega) hj, if_neg (by omega)]
      rintro x m2 ⟨rfl, r1, r2⟩
      rw [imin_nI (by have := mn_far v (fun u => ON d (m0 + 1) w u 0); omega) (by have := ON_far d (m0 + 1) w v 0; omega)]
      have hv2 := hlv w v hw (by omega)
      refine ih (v + 1) _ (by omega) ⟨fun g x q1 q2 q3 => ?_, fun x hx => ?_, fun x u k q1 q2 q3 => ?_, fun o j q => ?_⟩ ?_
      · rw [ms_ne (by omega), r2 _ _ (by omega)]
        exact hm.1 g x q1 q2 q3
      · rw [show dn d - m0 - 1 = f by omega, ms_sl (by omega), r2 _ _ (by omega)]
        have := hm.2.1 x hx
        rw [show dn d - m0 - 1 = f by omega] at this
        exact this
      · have hxu := hlv x u q1 q2
        have hu2 := (hd.wy x q1).2.1
        rw [ms_ne (by omega)]
        by_cases e : x = w ∧ u = v
        · obtain ⟨rfl, rfl⟩ := e
          rw [r1 k q3, if_pos q3, if_pos (by omega)]
        · rw [r2 _ _ (by omega), hm.2.2.1 x u k q1 q2 q3]
          congr 2
          by_cases e2 : x < w ∨ (x = w ∧ u < v)
          · rw [if_pos e2, if_pos (by omega)]
          · rw [if_neg e2, if_neg (by omega)]
      · rw [ms_ne (by omega), r2 o j (by omega)]
        exact hm.2.2.2 o j q
      · rw [ms_eq]
        rfl
  have key56 : ∀ f m0 b, f + (m0 + 1) = dn d → ((b = 1 ∧ m0 = 0) ∨ (b = 0 ∧ ¬ m0 = 0)) → (∀ m, LK d mem (m0 + 1) 0 0 m → WT κ 32 [some (.inr 40), some (.inr 1), some (.inr 10), some (.inl (nI f + (-1))), none, none, none, none] [] m) → ∀ i w m, i + w = dW d → LK d mem m0 w 0 m → WT κ 56 [some (.inr 40), some (.inr 1), some (.inr 10), some (.inl (nI f)), some (.inl b), some (.inl (nI w)), none, none] [] m := by
    intro f m0 b hf hb next i
    induction i with
    | zero =>
      intro w m hi hm
      have : w = dW d := by omega
      subst this
      refine K_X6_lookAhead_56 hC hT m _ _ _ ?_
      rw [(hm.dx hd).wd]
      refine ⟨fun _ => next m ⟨fun g x q1 q2 q3 => ?_, fun x hx => by omega, fun x u k q1 q2 q3 => ?_, hm.2.2.2⟩, fun q => absurd (nI_le (Nat.le_refl _) (by omega)) q⟩
      · by_cases e : g = f
        · subst e
          have := hm.2.1 x q3
          rw [show dn d - m0 - 1 = g by omega] at this
          rw [this, show dn d - g = m0 + 1 by omega]
        · exact hm.1 g x q1 (by omega) q3
      · rw [hm.2.2.1 x u k q1 q2 q3, if_pos (Or.inl q1), if_neg (by omega)]
    | succ i ih =>
      intro w m hi hm
      have hdm := hm.dx hd
      have hw : w < dW d := by omega
      have hwy := hd.wy w hw
      have go : ∀ m2, m2 = m → WT κ 107 [some (.inr 40), some (.inr 1), some (.inr 10), some (.inl (nI f)), some (.inl b), some (.inl (nI w)), some (.inl (nI (BE d m0 (w + 1)))), some (.inl 0)] [] (mset m2 (42 + f) w 1000000) := by
        rintro m2 rfl
        refine key107 f m0 w b hf hw (fun m3 h3 => ih (w + 1) m3 (by omega) h3) (dwy d w) 0 _ (by omega) ⟨fun g x q1 q2 q3 => ?_, fun x hx => ?_, fun x u k q1 q2 q3 => ?_, fun o j q => ?_⟩ ?_
        · rw [ms_ne (by omega)]
          exact hm.1 g x q1 q2 q3
        · rw [show dn d - m0 - 1 = f by omega, ms_sl (by omega)]
          have := hm.2.1 x hx
          rw [show dn d - m0 - 1 = f by omega] at this
          exact this
        · rw [ms_ne (by omega)]
          exact hm.2.2.1 x u k q1 q2 q3
        · rw [ms_ne (by omega)]
          exact hm.2.2.2 o j q
        · rw [ms_eq]
          rfl
      refine K_X6_lookAhead_56 hC hT m _ _ _ ?_
      rw [hdm.wd, nI_clamp (n := f) (by omega), nI_clamp (n := w) (by omega)]
      refine ⟨fun q => absurd q (nI_ge (by omega) (by omega)), fun _ => ?_⟩
      rcases hb with ⟨rfl, rfl⟩ | ⟨rfl, hm0⟩
      · obtain ⟨j1, j2, j3⟩ := hdm.jo (w + 1) 0 (by omega) (by omega)
        rw [wi_s, wi_0] at j1 j2
        rw [j2]
        exact ⟨fun q => absurd q (by decide), fun _ => ⟨j1, vp_in_nI (by omega) (by omega), vp_in_nI (by omega) (by omega), go m rfl⟩⟩
      · obtain ⟨m1, rfl⟩ : ∃ m1, m0 = m1 + 1 := ⟨m0 - 1, by omega⟩
        have cb := C_cheapestBehind κ.1.2.1 (a := w + 1) (f := f + 1) (p3 := -1) (g := fun x => AH d (m1 + 1) x) hdm (by omega) (by omega) (fun x hx => ⟨by rw [hm.1 (f + 1) x (by omega) (by omega) hx, show dn d - (f + 1) = m1 + 1 by omega], AH_far _ _ _⟩)
        rw [wi_s, mn_m1 (by omega), ← BE_s] at cb
        refine ⟨fun _ => ⟨_, by rw [nI_1]; exact cb, ?_⟩, fun q => absurd rfl q⟩
        rintro x m2 ⟨rfl, e2⟩
        exact ⟨vp_in_nI (by omega) (by omega), vp_in_nI (by omega) (by omega), go m2 e2⟩
  have key32 : ∀ c m0 m, c + m0 = dn d → LK d mem m0 0 0 m → WT κ 32 [some (.inr 40), some (.inr 1), some (.inr 10), some (.inl (nI c + (-1))), none, none, none, none] [] m := by
    intro c
    induction c with
    | zero =>
      intro m0 m hc hm
      refine K_X6_lookAhead_32 hC hT m _ ⟨fun _ => ⟨rfl, fun f x q1 q2 => hm.1 f x q1 (by omega) q2, hm.2.2.2⟩, fun q => absurd (by decide) q⟩
    | succ c ih =>
      intro m0 m hc hm
      refine K_X6_lookAhead_32 hC hT m _ ?_
      rw [pk_m1, (hm.dx hd).fr, show (nI (dn d) : Int32) - 1 = nI (dn d - 1) from pk_sub (b := 1) (by omega), nI_eq (by omega) (by omega)]
      refine ⟨fun q => absurd q (nI_pos (by omega)), fun _ => ⟨fun q => ?_, fun q => ?_⟩⟩
      · exact key56 c m0 1 (by omega) (Or.inl ⟨rfl, by omega⟩) (fun m2 h2 => ih (m0 + 1) m2 (by omega) h2) (dW d) 0 m (by omega) hm
      · exact key56 c m0 0 (by omega) (Or.inr ⟨rfl, by omega⟩) (fun m2 h2 => ih (m0 + 1) m2 (by omega) h2) (dW d) 0 m (by omega) hm
  have key2 : ∀ i c m, i + c = 16 → (∀ q k, q < c → k < 4 → m (83 + q) k = 1000000) → (∀ o j, (o < 83 ∨ 99 ≤ o) → m o j = mem o j) → WT κ 2 [some (.inr 40), some (.inr 1), some (.inr 10), some (.inl (nI c)), none, none, none, none] [] m := by
    intro i
    induction i with
    | zero =>
      intro c m hc h1 h2
      have : c = 16 := by omega
      subst this
      refine K_X6_lookAhead_2 hC hT m _ ⟨fun _ => ?_, fun q => absurd (by decide) q⟩
      rw [h2 1 2 (by omega), hd.fr, Int32.sub_eq_add_neg]
      refine key32 (dn d) 0 m (by omega) ⟨fun f x q1 q2 q3 => by omega, fun x hx => by omega, fun x u k q1 q2 q3 => ?_, fun o j q => h2 o j (by omega)⟩
      have := (hd.wy x q1).2.1
      have := (hd.ln x u q1 q2).2.1
      rw [h1 (2 * x + u) k (by omega) (by omega), if_neg (by omega)]
      rfl
    | succ i ih =>
      intro c m hc h1 h2
      refine K_X6_lookAhead_2 hC hT m _ ⟨fun q => absurd q (nI_ge (b := 16) (by omega) (by omega)), fun _ => ?_⟩
      rw [nI_clamp (n := c) (by omega), nI_1 c]
      refine ⟨vp_in_nI (by omega) (by omega), _, C_fillT _ (n := 4) (sh_on c (by omega)) (by omega), ?_⟩
      rintro m3 rfl
      refine ih (c + 1) _ (by omega) (fun q k h3 h4 => ?_) (fun o j q => ?_)
      · by_cases e : q = c
        · subst e
          rw [mfill_at (by omega)]
        · rw [mfill_o (by omega)]
          exact h1 q k (by omega) h4
      · rw [mfill_o (by omega)]
        exact h2 o j q
  exact K_X6_lookAhead_0 hC hT mem (key2 16 0 mem (by omega) (fun q k h1 _ => by omega) (fun _ _ _ => rfl))
