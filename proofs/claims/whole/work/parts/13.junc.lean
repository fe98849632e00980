def cval (cs : List CC) : TMem := fun o k => match cs[o]? with
  | some (.inl q) => (match q.2[k]? with
    | some (some (.inl x)) => x
    | _ => 0)
  | some (.inr (.inl q)) => q.2 k
  | _ => 0
def mem0 : TMem := cval csQ_14
def matf (a : Option Nat) (c : CV) : Bool := match a, c with
  | none, some (.inl _) => true
  | some q, some (.inr r) => decide (q = r) && decide (q < 900)
  | _, _ => false
def matfs : List (Option Nat) → List CV → Bool
  | [], [] => true
  | a :: x, c :: y => matf a c && matfs x y
  | _, _ => false
def matc (a : TO) (c : CC) : Bool := match a, c with
  | .inl p, .inl q => decide (p.1 = q.1) && matfs p.2 q.2
  | .inr (.inl n), .inr (.inl q) => decide (n = q.1)
  | .inr (.inr p), .inr (.inr q) => decide (p.1 = q.1) && (decide (p.2 = q.2) && decide (p.2 + p.1 < 900))
  | _, _ => false
def matAll : List TO → List CC → Bool
  | [], [] => true
  | a :: x, c :: y => matc a c && matAll x y
  | _, _ => false
theorem mat0 : matAll shp csQ_14 = true := by decide +kernel
theorem matAll_get : ∀ {sh : List TO} {cs : List CC}, matAll sh cs = true → ∀ {o : Nat} {x : TO}, sh[o]? = some x → ∃ c, cs[o]? = some c ∧ matc x c = true
  | [], _, _, o, x, h => by simp at h
  | a :: l, [], h, _, _, _ => by simp [matAll] at h
  | a :: l, c :: m, h, 0, x, hx => by
    simp only [matAll, Bool.and_eq_true] at h
    have e : a = x := by simpa using hx
    subst e
    exact ⟨c, rfl, h.1⟩
  | a :: l, c :: m, h, o + 1, x, hx => by
    simp only [matAll, Bool.and_eq_true] at h
    obtain ⟨d, h1, h2⟩ := matAll_get (sh := l) (cs := m) h.2 (o := o) (x := x) (by simpa using hx)
    exact ⟨d, by simpa using h1, h2⟩
theorem matfs_get : ∀ {l : List (Option Nat)} {m : List CV}, matfs l m = true → ∀ k : Nat, (l[k]? = none ∧ m[k]? = none) ∨ ∃ a c, l[k]? = some a ∧ m[k]? = some c ∧ matf a c = true
  | [], [], _, k => Or.inl ⟨by simp, by simp⟩
  | [], c :: m, h, k => by simp [matfs] at h
  | a :: l, [], h, k => by simp [matfs] at h
  | a :: l, c :: m, h, 0 => by
    simp only [matfs, Bool.and_eq_true] at h
    exact Or.inr ⟨a, c, rfl, rfl, h.1⟩
  | a :: l, c :: m, h, k + 1 => by
    simp only [matfs, Bool.and_eq_true] at h
    have := matfs_get h.2 k
    simpa using this
theorem conv_e {ρ : Nat → Nat} {b o : Nat} {cI cR : ClassId} {cs : List CC} {x : TO} {c : CC} (hρ : ∀ q, q < 900 → ρ q = b + q) (hc : cs[o]? = some c) (hm : matc x c = true) : tw_e ρ cI cR (cval cs) o x = cw_e b cI cR c := by
  rcases x with ⟨ci, fs⟩ | n | ⟨n, bs⟩
  · rcases c with ⟨cj, gs⟩ | ⟨n2, f⟩ | ⟨n2, b2⟩
    · simp only [matc, Bool.and_eq_true, decide_eq_true_eq] at hm
      obtain ⟨rfl, hf⟩ := hm
      have e : fs.mapIdx (fun k f => tw_f ρ (cval cs) o k f) = gs.map (cw_v b) := by
        apply List.ext_getElem?
        intro k
        rw [List.getElem?_mapIdx, List.getElem?_map]
        rcases matfs_get hf k with ⟨h1, h2⟩ | ⟨a, c, h1, h2, h3⟩
        · rw [h1, h2]; rfl
        · rw [h1, h2]
          show some (tw_f ρ (cval cs) o k a) = some (cw_v b c)
          rcases a with _ | r
          · rcases c with _ | (x | r)
            · simp [matf] at h3
            · simp [tw_f, cw_v, tw_v, cval, hc, h2]
            · simp [matf] at h3
          · rcases c with _ | (x | r2)
            · simp [matf] at h3
            · simp [matf] at h3
            · simp only [matf, Bool.and_eq_true, decide_eq_true_eq] at h3
              obtain ⟨rfl, h4⟩ := h3
              simp [tw_f, cw_v, tw_v, hρ r h4]
      simp only [tw_e, cw_e, e]
    · simp [matc] at hm
    · simp [matc] at hm
  · rcases c with ⟨cj, gs⟩ | ⟨n2, f⟩ | ⟨n2, b2⟩
    · simp [matc] at hm
    · simp only [matc, decide_eq_true_eq] at hm
      subst hm
      have e : cval cs o = f := by
        funext k
        simp [cval, hc]
      simp only [tw_e, cw_e, e]
    · simp [matc] at hm
  · rcases c with ⟨cj, gs⟩ | ⟨n2, f⟩ | ⟨n2, b2⟩
    · simp [matc] at hm
    · simp [matc] at hm
    · simp only [matc, Bool.and_eq_true, decide_eq_true_eq] at hm
      obtain ⟨rfl, rfl, h4⟩ := hm
      have e : (fun i => if i < n then some (ρ (bs + i)) else none) = fun i => if i < n then some (b + (bs + i)) else none := by
        funext i
        by_cases h : i < n
        · rw [if_pos h, if_pos h, hρ _ (by omega)]
        · rw [if_neg h, if_neg h]
      simp only [tw_e, cw_e, e]
theorem conv_P {ρ : Nat → Nat} {b : Nat} {cI cR : ClassId} {D : va_G} {H : Heap} (hρ : ∀ q, q < 900 → ρ q = b + q) (h : CW D b cI cR csQ_14 H) : va_P D vwCl (tw_ws ρ cI cR mem0) H := by
  intro k q hk
  obtain ⟨x, h1, rfl⟩ := tw_ws_inv hk
  obtain ⟨c, h2, h3⟩ := matAll_get mat0 h1
  have hl : k < 900 := by
    have := (List.getElem?_eq_some_iff.mp h1).1
    have e : shp.length = 210 := by decide +kernel
    omega
  have := h.2 k _ (cw_get h2)
  rw [hρ k hl, show tw_e ρ cI cR mem0 k x = cw_e b cI cR c from conv_e hρ h2 h3]
  exact this
theorem conv_D {ρ : Nat → Nat} {b : Nat} {cI cR : ClassId} {mem : TMem} (hρ : ∀ q, q < 900 → ρ q = b + q) : va_D (fun q => b ≤ q) (tw_ws ρ cI cR mem) := by
  have e : shp.length = 210 := by decide +kernel
  refine ⟨fun i j p q hi hj h => ?_, fun k q hk => ?_⟩
  · obtain ⟨s1, a1, rfl⟩ := tw_ws_inv hi
    obtain ⟨s2, a2, rfl⟩ := tw_ws_inv hj
    have l1 := (List.getElem?_eq_some_iff.mp a1).1
    have l2 := (List.getElem?_eq_some_iff.mp a2).1
    have h : ρ i = ρ j := h
    rw [hρ i (by omega), hρ j (by omega)] at h
    omega
  · obtain ⟨s1, a1, rfl⟩ := tw_ws_inv hk
    have l1 := (List.getElem?_eq_some_iff.mp a1).1
    show b ≤ ρ k
    rw [hρ k (by omega)]
    exact Nat.le_add_right b k
/-- a call of the class and the same one of the reference: one answer, and J behind them -/
def SIM (l : Launch) (iX : TMI) (fX lX : Nat) (iM : TMI) (fM lM : Nat) (ar : List TV) (J : TMem → Prop) (mem : TMem) : Prop := ∃ post : Int32 → TMem → Prop, TMi l iX fX lX (.inr 0 :: ar) mem post ∧ ∀ (x : Int32) (m1 : TMem), post x m1 → ∃ post2 : Int32 → TMem → Prop, TMi l iM fM lM (.inr 187 :: ar) m1 post2 ∧ ∀ (y : Int32) (m2 : TMem), post2 y m2 → x = y ∧ J m2
theorem sim_go {l : Launch} {iX iM : TMI} {fX lX fM lM : Nat} {ar : List TV} {J P : TMem → Prop} {mem : TMem} (h : SIM l iX fX lX iM fM lM ar J mem) (k : ∀ m2, J m2 → P m2) : ∃ post : Int32 → TMem → Prop, TMi l iX fX lX (.inr 0 :: ar) mem post ∧ ∀ (x : Int32) (m1 : TMem), post x m1 → (∃ post2 : Int32 → TMem → Prop, TMi l iM fM lM (.inr 187 :: ar) m1 post2 ∧ ∀ (y : Int32) (m2 : TMem), post2 y m2 → ((x = y → P m2) ∧ (¬ (x = y) → False))) := by
  obtain ⟨post, hM, h⟩ := h
  refine ⟨post, hM, fun x m1 hp => ?_⟩
  obtain ⟨post2, hM2, h2⟩ := h x m1 hp
  exact ⟨post2, hM2, fun y m2 hq => ⟨fun _ => k m2 (h2 y m2 hq).2, fun hne => hne (h2 y m2 hq).1⟩⟩
def OPS (l : Launch) (J : TMem → Prop) (mem : TMem) : Prop := (∀ p1 : Int32, SIM l i_X10_feed 2 42 i_X11_feed 1 22 [.inl p1] J mem) ∧ (SIM l i_X10_hush 2 40 i_X11_hush 0 0 [] J mem) ∧ (∀ p1 p2 p3 : Int32, SIM l i_X10_cost 2 42 i_X11_cost 1 22 [.inl p1, .inl p2, .inl p3] J mem) ∧ (∀ p1 : Int32, SIM l i_X10_stay 2 40 i_X11_stay 1 22 [.inl p1] J mem) ∧ (∀ p1 p2 p3 p4 : Int32, SIM l i_X10_word 4 86 i_X11_word 2 46 [.inl p1, .inl p2, .inl p3, .inl p4] J mem) ∧ (∀ p1 p2 p3 p4 p5 : Int32, SIM l i_X10_way 4 86 i_X11_way 2 46 [.inl p1, .inl p2, .inl p3, .inl p4, .inl p5] J mem) ∧ (∀ p1 p2 p3 : Int32, SIM l i_X10_grammar 3 64 i_X11_grammar 2 43 [.inl p1, .inl p2, .inl p3] J mem) ∧ (SIM l i_X10_least 6 153 i_X11_least 5 116 [] J mem) ∧ (SIM l i_X10_rowSize 6 153 i_X11_rowSize 6 140 [] J mem) ∧ (∀ p1 : Int32, SIM l i_X10_rowAt 6 153 i_X11_rowAt 6 140 [.inl p1] J mem) ∧ (SIM l i_X10_beside 6 153 i_X11_beside 6 140 [] J mem) ∧ (∀ p1 : Int32, SIM l i_X10_say 2 43 i_X11_say 2 43 [.inl p1] J mem) ∧ (SIM l i_X10_unsay 1 20 i_X11_unsay 0 0 [] J mem) ∧ (SIM l i_X10_lay 4 99 i_X11_lay 5 125 [] J mem) ∧ (∀ p1 p2 : Int32, SIM l i_X10_laid 1 22 i_X11_laid 1 22 [.inl p1, .inl p2] J mem) ∧ (SIM l i_X10_edits 6 153 i_X11_edits 6 140 [] J mem) ∧ (SIM l i_X10_teach 2 50 i_X11_teach 0 0 [] J mem) ∧ (SIM l i_X10_unteach 1 25 i_X11_unteach 0 0 [] J mem) ∧ (∀ p1 p2 : Int32, SIM l i_X10_taught 2 42 i_X11_taught 1 22 [.inl p1, .inl p2] J mem) ∧ (SIM l i_X10_renew 2 48 i_X11_renew 0 0 [] J mem) ∧ (∀ p1 p2 : Int32, SIM l i_X10_spot 4 107 i_X11_spot 3 72 [.inl p1, .inl p2] J mem) ∧ (∀ p1 p2 p3 : Int32, SIM l i_X10_ears 1 23 i_X11_ears 1 22 [.inl p1, .inl p2, .inl p3] J mem) ∧ (∀ p1 : Int32, SIM l i_X10_speech 3 67 i_X11_speech 1 25 [.inl p1] J mem) ∧ (∀ p1 : Int32, SIM l i_X10_count 1 20 i_X11_count 0 0 [.inl p1] J mem)
set_option maxRecDepth 100000 in
set_option maxHeartbeats 4000000 in
theorem law_loop {κ : TCx} {L : Nat} {xs : Nat → Int32} (hC : TC κ RL cL_law 4 9 352) (hX : LX κ L xs) (hL : L ≤ 3072) (INV : Nat → TMem → Prop) (hops : ∀ k mem, k < 512 → INV k mem → OPS κ.1.2.1 (INV (k + 1)) mem) (hm : ∀ mem k, INV k mem → INV (k + 1) mem) : ∀ j k mem, j + k = 513 → INV k mem → WT κ 18 [some (.inr 999), some (.inr 0), some (.inr 187), some (.inl (nI (6 * k)))] [] mem := by
  intro j
  induction j with
  | zero =>
    intro k mem hk hI
    refine K_law_18 hC hX mem _ ⟨fun _ => trivial, fun h => absurd ?_ h⟩
    rw [Int32.lt_iff_toInt_lt, nI_toInt (by omega)]
    have e : (nI L - 6 : Int32).toInt = (L : Int) - 6 := pk_sub_toInt (b := 6) (by omega) (by omega)
    rw [e]
    omega
  | succ j ih =>
    intro k mem hk hI
    refine K_law_18 hC hX mem _ ⟨fun _ => trivial, fun h => ?_⟩
    rw [Int32.lt_iff_toInt_lt, nI_toInt (by omega)] at h
    have e : (nI L - 6 : Int32).toInt = (L : Int) - 6 := pk_sub_toInt (b := 6) (by omega) (by omega)
    rw [e] at h
    have hle : 6 * k + 6 ≤ L := by omega
    have vp0 : vp_in (nI (6 * k)) L := vp_in_nI (by omega) (by omega)
    have vp1 : vp_in (nI (6 * k) + 1) L := by rw [show nI (6 * k) + 1 = nI (6 * k + 1) from nI_add _ 1]; exact vp_in_nI (by omega) (by omega)
    have vp2 : vp_in (nI (6 * k) + 2) L := by rw [show nI (6 * k) + 2 = nI (6 * k + 2) from nI_add _ 2]; exact vp_in_nI (by omega) (by omega)
    have vp3 : vp_in (nI (6 * k) + 3) L := by rw [show nI (6 * k) + 3 = nI (6 * k + 3) from nI_add _ 3]; exact vp_in_nI (by omega) (by omega)
    have vp4 : vp_in (nI (6 * k) + 4) L := by rw [show nI (6 * k) + 4 = nI (6 * k + 4) from nI_add _ 4]; exact vp_in_nI (by omega) (by omega)
    have vp5 : vp_in (nI (6 * k) + 5) L := by rw [show nI (6 * k) + 5 = nI (6 * k + 5) from nI_add _ 5]; exact vp_in_nI (by omega) (by omega)
    have next : ∀ m2, INV (k + 1) m2 → WT κ 18 [some (.inr 999), some (.inr 0), some (.inr 187), some (.inl (nI (6 * k) + 6))] [] m2 := fun m2 h2 => by
      rw [show nI (6 * k) + 6 = nI (6 * (k + 1)) from nI_add _ 6]
      exact ih (k + 1) m2 (by omega) h2
    have h := hops k mem (by omega) hI
    unfold OPS at h
    exact ⟨vp0, ⟨fun _ => ⟨vp1, sim_go (h.1 _) next⟩, fun _ => ⟨fun _ => sim_go (h.2.1) next, fun _ => ⟨fun _ => ⟨vp1, vp2, vp3, sim_go (h.2.2.1 _ _ _) next⟩, fun _ => ⟨fun _ => ⟨vp1, sim_go (h.2.2.2.1 _) next⟩, fun _ => ⟨fun _ => ⟨vp1, vp2, vp3, vp4, sim_go (h.2.2.2.2.1 _ _ _ _) next⟩, fun _ => ⟨fun _ => ⟨vp1, vp2, vp3, vp4, vp5, sim_go (h.2.2.2.2.2.1 _ _ _ _ _) next⟩, fun _ => ⟨fun _ => ⟨vp1, vp2, vp3, sim_go (h.2.2.2.2.2.2.1 _ _ _) next⟩, fun _ => ⟨fun _ => sim_go (h.2.2.2.2.2.2.2.1) next, fun _ => ⟨fun _ => sim_go (h.2.2.2.2.2.2.2.2.1) next, fun _ => ⟨fun _ => ⟨vp1, sim_go (h.2.2.2.2.2.2.2.2.2.1 _) next⟩, fun _ => ⟨fun _ => sim_go (h.2.2.2.2.2.2.2.2.2.2.1) next, fun _ => ⟨fun _ => ⟨vp1, sim_go (h.2.2.2.2.2.2.2.2.2.2.2.1 _) next⟩, fun _ => ⟨fun _ => sim_go (h.2.2.2.2.2.2.2.2.2.2.2.2.1) next, fun _ => ⟨fun _ => sim_go (h.2.2.2.2.2.2.2.2.2.2.2.2.2.1) next, fun _ => ⟨fun _ => ⟨vp1, vp2, sim_go (h.2.2.2.2.2.2.2.2.2.2.2.2.2.2.1 _ _) next⟩, fun _ => ⟨fun _ => sim_go (h.2.2.2.2.2.2.2.2.2.2.2.2.2.2.2.1) next, fun _ => ⟨fun _ => sim_go (h.2.2.2.2.2.2.2.2.2.2.2.2.2.2.2.2.1) next, fun _ => ⟨fun _ => sim_go (h.2.2.2.2.2.2.2.2.2.2.2.2.2.2.2.2.2.1) next, fun _ => ⟨fun _ => ⟨vp1, vp2, sim_go (h.2.2.2.2.2.2.2.2.2.2.2.2.2.2.2.2.2.2.1 _ _) next⟩, fun _ => ⟨fun _ => sim_go (h.2.2.2.2.2.2.2.2.2.2.2.2.2.2.2.2.2.2.2.1) next, fun _ => ⟨fun _ => ⟨vp1, vp2, sim_go (h.2.2.2.2.2.2.2.2.2.2.2.2.2.2.2.2.2.2.2.2.1 _ _) next⟩, fun _ => ⟨fun _ => ⟨vp1, vp2, vp3, sim_go (h.2.2.2.2.2.2.2.2.2.2.2.2.2.2.2.2.2.2.2.2.2.1 _ _ _) next⟩, fun _ => ⟨fun _ => ⟨vp1, sim_go (h.2.2.2.2.2.2.2.2.2.2.2.2.2.2.2.2.2.2.2.2.2.2.1 _) next⟩, fun _ => ⟨fun _ => ⟨vp1, sim_go (h.2.2.2.2.2.2.2.2.2.2.2.2.2.2.2.2.2.2.2.2.2.2.2 _) next⟩, fun _ => next mem (hm mem k hI)⟩⟩⟩⟩⟩⟩⟩⟩⟩⟩⟩⟩⟩⟩⟩⟩⟩⟩⟩⟩⟩⟩⟩⟩⟩
