set_option maxRecDepth 100000 in
theorem K_fill_0 {κ : TCx} {post0 : Option TV → TMem → Prop} (hC : TC κ RJ7 cJ7_fill_53178 4 0 0) (hT : TR κ none post0) (q0 n0 : Nat) (hq0 : shp[q0]? = some (.inr (.inl n0))) (mem : TMem) (v1 : Int32) (h : WT κ 5 [some (.inr q0), some (.inl v1), some (.inl 0), some (.inl (nI n0))] [] mem) : WT κ 0 [some (.inr q0), some (.inl v1), none, none] [] mem := by
  refine tr_iconst (v := 0) hC dJ7_fill_53178_0 (by decide) ?_
  refine tr_istore_n (loc2 := [some (.inr q0), some (.inl v1), some (.inl 0), none]) hC dJ7_fill_53178_1 rfl (by decide) rfl ?_
  refine tr_aload_n hC dJ7_fill_53178_2 rfl rfl ?_
  refine tr_alen (v := nI n0) hC dJ7_fill_53178_3 hq0 rfl ?_
  refine tr_istore_n (loc2 := [some (.inr q0), some (.inl v1), some (.inl 0), some (.inl (nI n0))]) hC dJ7_fill_53178_4 rfl (by decide) rfl ?_
  exact h
set_option maxRecDepth 100000 in
theorem K_fill_5 {κ : TCx} {post0 : Option TV → TMem → Prop} (hC : TC κ RJ7 cJ7_fill_53178 4 0 0) (hT : TR κ none post0) (q0 n0 : Nat) (hq0 : shp[q0]? = some (.inr (.inl n0))) (mem : TMem) (v1 v2 v3 : Int32) (h : (v3 ≤ v2 → post0 none mem) ∧ (¬ (v3 ≤ v2) → (vp_in v2 n0 ∧ (WT κ 5 [some (.inr q0), some (.inl v1), some (.inl (v2 + 1)), some (.inl v3)] [] (mset mem q0 v2.toNatClampNeg v1))))) : WT κ 5 [some (.inr q0), some (.inl v1), some (.inl v2), some (.inl v3)] [] mem := by
  refine tr_iload_n hC dJ7_fill_53178_5 rfl rfl ?_
  refine tr_iload_n hC dJ7_fill_53178_6 rfl rfl ?_
  refine tr_icmp_ge hC dJ7_fill_53178_7 (tgt := 20) rfl (fun c7 => ?_) (fun c7 => ?_)
  · replace h := h.1 c7
    exact tr_vret hC hT dJ7_fill_53178_20 h
  · replace h := h.2 c7
    refine tr_aload_n hC dJ7_fill_53178_10 rfl rfl ?_
    refine tr_iload_n hC dJ7_fill_53178_11 rfl rfl ?_
    refine tr_iload_n hC dJ7_fill_53178_12 rfl rfl ?_
    obtain ⟨g1, h⟩ := h
    refine tr_iast hC dJ7_fill_53178_13 hq0 g1 ?_
    refine tr_iinc (v := v2 + 1) (loc2 := [some (.inr q0), some (.inl v1), some (.inl (v2 + 1)), some (.inl v3)]) hC dJ7_fill_53178_14 rfl rfl (by decide) rfl ?_
    refine tr_goto hC dJ7_fill_53178_17 (tgt := 5) rfl ?_
    exact h
set_option maxRecDepth 100000 in
theorem K_X6_cheapestBehind_0 {κ : TCx} {post0 : Option TV → TMem → Prop} (hC : TC κ RX6 cX6_cheapestBehind 7 2 45) (hT : TR κ (some .int) post0) (mem : TMem) (p1 : Int32) (p2 : Int32) (p3 : Int32) (h : WT κ 7 [some (.inr 40), some (.inr 10), some (.inl p1), some (.inl p2), some (.inl p3), some (.inl 1000000), some (.inl 0)] [] mem) : WT κ 0 [some (.inr 40), some (.inr 10), some (.inl p1), some (.inl p2), some (.inl p3), none, none] [] mem := by
  refine tr_ldc hC dX6_cheapestBehind_0 lc_X6_39 ?_
  refine tr_istore (loc2 := [some (.inr 40), some (.inr 10), some (.inl p1), some (.inl p2), some (.inl p3), some (.inl 1000000), none]) hC dX6_cheapestBehind_2 (by decide) rfl ?_
  refine tr_iconst (v := 0) hC dX6_cheapestBehind_4 (by decide) ?_
  refine tr_istore (loc2 := [some (.inr 40), some (.inr 10), some (.inl p1), some (.inl p2), some (.inl p3), some (.inl 1000000), some (.inl 0)]) hC dX6_cheapestBehind_5 (by decide) rfl ?_
  exact h
set_option maxRecDepth 100000 in
theorem K_X6_cheapestBehind_7 {κ : TCx} {post0 : Option TV → TMem → Prop} (hC : TC κ RX6 cX6_cheapestBehind 7 2 45) (hT : TR κ (some .int) post0) (mem : TMem) (v2 : Int32) (v3 : Int32) (v4 : Int32) (v5 : Int32) (v6 : Int32) (h : ((mem 10 4) ≤ v6 → post0 (some (.inl v5)) mem) ∧ (¬ ((mem 10 4) ≤ v6) → ((v6 = v4 → (WT κ 7 [some (.inr 40), some (.inr 10), some (.inl v2), some (.inl v3), some (.inl v4), some (.inl v5), some (.inl (v6 + 1))] [] mem)) ∧ (¬ (v6 = v4) → (G_X5_joint v2 v6 ∧ (vp_in v3 40 ∧ (vp_in v6 8 ∧ (WT κ 7 [some (.inr 40), some (.inr 10), some (.inl v2), some (.inl v3), some (.inl v4), some (.inl (imin v5 ((F_X5_joint mem v2 v6) + (mem (42 + v3.toNatClampNeg) v6.toNatClampNeg)))), some (.inl (v6 + 1))] [] mem)))))))) : WT κ 7 [some (.inr 40), some (.inr 10), some (.inl v2), some (.inl v3), some (.inl v4), some (.inl v5), some (.inl v6)] [] mem := by
  refine tr_iload hC dX6_cheapestBehind_7 rfl ?_
  refine tr_aload_n hC dX6_cheapestBehind_9 rfl rfl ?_
  refine tr_xVi (As := []) (fr2 := 0) (lo2 := 0) hC dX6_cheapestBehind_10 mc_X6_72 mv_X5_words sh_10 rfl ⟨Nat.le_of_ble_eq_true rfl, Nat.le_of_ble_eq_true rfl, Nat.le_of_ble_eq_true rfl⟩ rfl (C_X5_words _ mem ) ?_
  refine tr_icmp_ge hC dX6_cheapestBehind_13 (tgt := 53) rfl (fun c13 => ?_) (fun c13 => ?_)
  · replace h := h.1 c13
    refine tr_iload hC dX6_cheapestBehind_53 rfl ?_
    exact tr_iret hC hT dX6_cheapestBehind_55 h
  · replace h := h.2 c13
    refine tr_iload hC dX6_cheapestBehind_16 rfl ?_
    refine tr_iload hC dX6_cheapestBehind_18 rfl ?_
    refine tr_icmp_eq hC dX6_cheapestBehind_20 (tgt := 47) rfl (fun c20 => ?_) (fun c20 => ?_)
    · replace h := h.1 c20
      refine tr_iinc (v := v6 + 1) (loc2 := [some (.inr 40), some (.inr 10), some (.inl v2), some (.inl v3), some (.inl v4), some (.inl v5), some (.inl (v6 + 1))]) hC dX6_cheapestBehind_47 rfl rfl (by decide) rfl ?_
      refine tr_goto hC dX6_cheapestBehind_50 (tgt := 7) rfl ?_
      exact h
    · replace h := h.2 c20
      refine tr_iload hC dX6_cheapestBehind_23 rfl ?_
      refine tr_aload_n hC dX6_cheapestBehind_25 rfl rfl ?_
      refine tr_iload_n hC dX6_cheapestBehind_26 rfl rfl ?_
      refine tr_iload hC dX6_cheapestBehind_27 rfl ?_
      obtain ⟨g1, h⟩ := h
      refine tr_xVi (As := [.inl v2, .inl v6]) (fr2 := 1) (lo2 := 22) hC dX6_cheapestBehind_29 mc_X6_77 mv_X5_joint sh_10 rfl ⟨Nat.le_of_ble_eq_true rfl, Nat.le_of_ble_eq_true rfl, Nat.le_of_ble_eq_true rfl⟩ rfl (C_X5_joint _ mem v2 v6 g1) ?_
      refine tr_aload_n hC dX6_cheapestBehind_32 rfl rfl ?_
      refine tr_getr hC dX6_cheapestBehind_33 gf_X6_11 sh_40 rfl ?_
      refine tr_iload_n hC dX6_cheapestBehind_36 rfl rfl ?_
      obtain ⟨g2, h⟩ := h
      refine tr_aald hC dX6_cheapestBehind_37 sh_41 g2 ?_
      refine tr_iload hC dX6_cheapestBehind_38 rfl ?_
      obtain ⟨g3, h⟩ := h
      refine tr_al (v := mem (42 + v3.toNatClampNeg) v6.toNatClampNeg) hC dX6_cheapestBehind_40 (shr_41 _ (vp_lt g2)) g3 rfl ?_
      refine tr_iadd hC dX6_cheapestBehind_41 ?_
      refine tr_min hC dX6_cheapestBehind_42 mm_X6_81 ⟨Nat.le_of_ble_eq_true rfl, Nat.le_of_ble_eq_true rfl⟩ ?_
      refine tr_istore (loc2 := [some (.inr 40), some (.inr 10), some (.inl v2), some (.inl v3), some (.inl v4), some (.inl (imin v5 ((F_X5_joint mem v2 v6) + (mem (42 + v3.toNatClampNeg) v6.toNatClampNeg)))), some (.inl v6)]) hC dX6_cheapestBehind_45 (by decide) rfl ?_
      refine tr_iinc (v := v6 + 1) (loc2 := [some (.inr 40), some (.inr 10), some (.inl v2), some (.inl v3), some (.inl v4), some (.inl (imin v5 ((F_X5_joint mem v2 v6) + (mem (42 + v3.toNatClampNeg) v6.toNatClampNeg)))), some (.inl (v6 + 1))]) hC dX6_cheapestBehind_47 rfl rfl (by decide) rfl ?_
      refine tr_goto hC dX6_cheapestBehind_50 (tgt := 7) rfl ?_
      exact h
set_option maxRecDepth 100000 in
theorem K_X6_stepBack_0 {κ : TCx} {post0 : Option TV → TMem → Prop} (hC : TC κ RX6 cX6_stepBack 12 1 23) (hT : TR κ (some .int) post0) (mem : TMem) (p1 : Int32) (p2 : Int32) (p3 : Int32) (p4 : Int32) (h : (vp_in ((p1 * 2) + p2) 16) ∧ (G_X5_lengthOf p1 p2 ∧ (WT κ 25 [none, some (.inr 1), some (.inr 10), some (.inl p1), some (.inl p2), some (.inl p3), some (.inl p4), some (.inr (83 + (Int32.toNatClampNeg ((p1 * 2) + p2)))), some (.inl (mem 28 (Int32.toNatClampNeg ((p1 * 2) + p2)))), some (.inl 0), none, none] [] mem))) : WT κ 0 [some (.inr 40), some (.inr 1), some (.inr 10), some (.inl p1), some (.inl p2), some (.inl p3), some (.inl p4), none, none, none, none, none] [] mem := by
  refine tr_aload_n hC dX6_stepBack_0 rfl rfl ?_
  refine tr_getr hC dX6_stepBack_1 gf_X6_16 sh_40 rfl ?_
  refine tr_iload_n hC dX6_stepBack_4 rfl rfl ?_
  refine tr_iconst (v := 2) hC dX6_stepBack_5 (by decide) ?_
  refine tr_imul hC dX6_stepBack_6 ?_
  refine tr_iload hC dX6_stepBack_7 rfl ?_
  refine tr_iadd hC dX6_stepBack_9 ?_
  obtain ⟨g1, h⟩ := h
  refine tr_aald hC dX6_stepBack_10 sh_82 g1 ?_
  refine tr_astore (loc2 := [some (.inr 40), some (.inr 1), some (.inr 10), some (.inl p1), some (.inl p2), some (.inl p3), some (.inl p4), some (.inr (83 + (Int32.toNatClampNeg ((p1 * 2) + p2)))), none, none, none, none]) hC dX6_stepBack_11 (by decide) rfl ?_
  refine tr_aload_n hC dX6_stepBack_13 rfl rfl ?_
  refine tr_iload_n hC dX6_stepBack_14 rfl rfl ?_
  refine tr_iload hC dX6_stepBack_15 rfl ?_
  obtain ⟨g2, h⟩ := h
  refine tr_xVi (As := [.inl p1, .inl p2]) (fr2 := 0) (lo2 := 0) hC dX6_stepBack_17 mc_X6_99 mv_X5_lengthOf sh_10 rfl ⟨Nat.le_of_ble_eq_true rfl, Nat.le_of_ble_eq_true rfl, Nat.le_of_ble_eq_true rfl⟩ rfl (C_X5_lengthOf _ mem p1 p2 g2) ?_
  refine tr_istore (loc2 := [some (.inr 40), some (.inr 1), some (.inr 10), some (.inl p1), some (.inl p2), some (.inl p3), some (.inl p4), some (.inr (83 + (Int32.toNatClampNeg ((p1 * 2) + p2)))), some (.inl (mem 28 (Int32.toNatClampNeg ((p1 * 2) + p2)))), none, none, none]) hC dX6_stepBack_20 (by decide) rfl ?_
  refine tr_iconst (v := 0) hC dX6_stepBack_22 (by decide) ?_
  refine tr_istore (loc2 := [some (.inr 40), some (.inr 1), some (.inr 10), some (.inl p1), some (.inl p2), some (.inl p3), some (.inl p4), some (.inr (83 + (Int32.toNatClampNeg ((p1 * 2) + p2)))), some (.inl (mem 28 (Int32.toNatClampNeg ((p1 * 2) + p2)))), some (.inl 0), none, none]) hC dX6_stepBack_23 (by decide) rfl ?_
  exact tr_weak (tl_n (tl_s (tl_s (tl_s (tl_s (tl_s (tl_s (tl_s (tl_s (tl_s (tl_n (tl_n (tl_nil _))))))))))))) h
set_option maxRecDepth 100000 in
theorem K_X6_stepBack_25 {κ : TCx} {post0 : Option TV → TMem → Prop} (hC : TC κ RX6 cX6_stepBack 12 1 23) (hT : TR κ (some .int) post0) (mem : TMem) (v3 : Int32) (v4 : Int32) (v5 : Int32) (v6 : Int32) (q7 : Nat) (hq7 : shp[q7]? = some (.inr (.inl 4))) (v8 : Int32) (v9 : Int32) (h : (v8 ≤ v9 → post0 (some (.inl (mem q7 0))) mem) ∧ (¬ (v8 ≤ v9) → ((v8 ≤ (v9 + 1) → (vp_in v9 4 ∧ (G_X5_soundOf v3 v4 v9 ∧ ((G_X2_costAt mem (mem (12 + (Int32.toNatClampNeg ((v3 * 2) + v4))) v9.toNatClampNeg) v5) ∧ (WT κ 25 [none, some (.inr 1), some (.inr 10), some (.inl v3), some (.inl v4), some (.inl v5), some (.inl v6), some (.inr q7), some (.inl v8), some (.inl (v9 + 1)), none, none] [] (mset mem q7 v9.toNatClampNeg (imin 1000000 ((imin v6 ((mem q7 v9.toNatClampNeg) + (mem 1 3))) + (F_X2_costAt mem (mem (12 + (Int32.toNatClampNeg ((v3 * 2) + v4))) v9.toNatClampNeg) v5))))))))) ∧ (¬ (v8 ≤ (v9 + 1)) → ((vp_in (v9 + 1) 4) ∧ (vp_in v9 4 ∧ (G_X5_soundOf v3 v4 v9 ∧ ((G_X2_costAt mem (mem (12 + (Int32.toNatClampNeg ((v3 * 2) + v4))) v9.toNatClampNeg) v5) ∧ (WT κ 25 [none, some (.inr 1), some (.inr 10), some (.inl v3), some (.inl v4), some (.inl v5), some (.inl v6), some (.inr q7), some (.inl v8), some (.inl (v9 + 1)), none, none] [] (mset mem q7 v9.toNatClampNeg (imin 1000000 ((imin (mem q7 (Int32.toNatClampNeg (v9 + 1))) ((mem q7 v9.toNatClampNeg) + (mem 1 3))) + (F_X2_costAt mem (mem (12 + (Int32.toNatClampNeg ((v3 * 2) + v4))) v9.toNatClampNeg) v5))))))))))))) : WT κ 25 [none, some (.inr 1), some (.inr 10), some (.inl v3), some (.inl v4), some (.inl v5), some (.inl v6), some (.inr q7), some (.inl v8), some (.inl v9), none, none] [] mem := by
  refine tr_iload hC dX6_stepBack_25 rfl ?_
  refine tr_iload hC dX6_stepBack_27 rfl ?_
  refine tr_icmp_ge hC dX6_stepBack_29 (tgt := 106) rfl (fun c29 => ?_) (fun c29 => ?_)
  · replace h := h.1 c29
    refine tr_aload hC dX6_stepBack_106 rfl ?_
    refine tr_iconst (v := 0) hC dX6_stepBack_108 (by decide) ?_
    refine tr_al (v := mem q7 0) hC dX6_stepBack_109 hq7 (by unfold vp_in; decide) rfl ?_
    exact tr_iret hC hT dX6_stepBack_110 h
  · replace h := h.2 c29
    refine tr_iload hC dX6_stepBack_32 rfl ?_
    refine tr_iconst (v := 1) hC dX6_stepBack_34 (by decide) ?_
    refine tr_iadd hC dX6_stepBack_35 ?_
    refine tr_iload hC dX6_stepBack_36 rfl ?_
    refine tr_icmp_ge hC dX6_stepBack_38 (tgt := 51) rfl (fun c38 => ?_) (fun c38 => ?_)
    · replace h := h.1 c38
      refine tr_iload hC dX6_stepBack_51 rfl ?_
      refine tr_istore (loc2 := [none, some (.inr 1), some (.inr 10), some (.inl v3), some (.inl v4), some (.inl v5), some (.inl v6), some (.inr q7), some (.inl v8), some (.inl v9), some (.inl v6), none]) hC dX6_stepBack_53 (by decide) rfl ?_
      refine tr_iload hC dX6_stepBack_55 rfl ?_
      refine tr_aload hC dX6_stepBack_57 rfl ?_
      refine tr_iload hC dX6_stepBack_59 rfl ?_
      obtain ⟨g1, h⟩ := h
      refine tr_al (v := mem q7 v9.toNatClampNeg) hC dX6_stepBack_61 hq7 g1 rfl ?_
      refine tr_aload_n hC dX6_stepBack_62 rfl rfl ?_
      refine tr_xVi (As := []) (fr2 := 0) (lo2 := 0) hC dX6_stepBack_63 mc_X6_102 mv_X2_stayCost sh_1 rfl ⟨Nat.le_of_ble_eq_true rfl, Nat.le_of_ble_eq_true rfl, Nat.le_of_ble_eq_true rfl⟩ rfl (C_X2_stayCost _ mem ) ?_
      refine tr_iadd hC dX6_stepBack_66 ?_
      refine tr_min hC dX6_stepBack_67 mm_X6_81 ⟨Nat.le_of_ble_eq_true rfl, Nat.le_of_ble_eq_true rfl⟩ ?_
      refine tr_istore (loc2 := [none, some (.inr 1), some (.inr 10), some (.inl v3), some (.inl v4), some (.inl v5), some (.inl v6), some (.inr q7), some (.inl v8), some (.inl v9), some (.inl v6), some (.inl (imin v6 ((mem q7 v9.toNatClampNeg) + (mem 1 3))))]) hC dX6_stepBack_70 (by decide) rfl ?_
      refine tr_aload hC dX6_stepBack_72 rfl ?_
      refine tr_iload hC dX6_stepBack_74 rfl ?_
      refine tr_ldc hC dX6_stepBack_76 lc_X6_39 ?_
      refine tr_iload hC dX6_stepBack_78 rfl ?_
      refine tr_aload_n hC dX6_stepBack_80 rfl rfl ?_
      refine tr_aload_n hC dX6_stepBack_81 rfl rfl ?_
      refine tr_iload_n hC dX6_stepBack_82 rfl rfl ?_
      refine tr_iload hC dX6_stepBack_83 rfl ?_
      refine tr_iload hC dX6_stepBack_85 rfl ?_
      obtain ⟨g2, h⟩ := h
      refine tr_xVi (As := [.inl v3, .inl v4, .inl v9]) (fr2 := 0) (lo2 := 0) hC dX6_stepBack_87 mc_X6_105 mv_X5_soundOf sh_10 rfl ⟨Nat.le_of_ble_eq_true rfl, Nat.le_of_ble_eq_true rfl, Nat.le_of_ble_eq_true rfl⟩ rfl (C_X5_soundOf _ mem v3 v4 v9 g2) ?_
      refine tr_iload hC dX6_stepBack_90 rfl ?_
      obtain ⟨g3, h⟩ := h
      refine tr_xVi (As := [.inl (mem (12 + (Int32.toNatClampNeg ((v3 * 2) + v4))) v9.toNatClampNeg), .inl v5]) (fr2 := 0) (lo2 := 0) hC dX6_stepBack_92 mc_X6_109 mv_X2_costAt sh_1 rfl ⟨Nat.le_of_ble_eq_true rfl, Nat.le_of_ble_eq_true rfl, Nat.le_of_ble_eq_true rfl⟩ rfl (C_X2_costAt _ mem (mem (12 + (Int32.toNatClampNeg ((v3 * 2) + v4))) v9.toNatClampNeg) v5 g3) ?_
      refine tr_iadd hC dX6_stepBack_95 ?_
      refine tr_min hC dX6_stepBack_96 mm_X6_81 ⟨Nat.le_of_ble_eq_true rfl, Nat.le_of_ble_eq_true rfl⟩ ?_
      refine tr_iast hC dX6_stepBack_99 hq7 g1 ?_
      refine tr_iinc (v := v9 + 1) (loc2 := [none, some (.inr 1), some (.inr 10), some (.inl v3), some (.inl v4), some (.inl v5), some (.inl v6), some (.inr q7), some (.inl v8), some (.inl (v9 + 1)), some (.inl v6), some (.inl (imin v6 ((mem q7 v9.toNatClampNeg) + (mem 1 3))))]) hC dX6_stepBack_100 rfl rfl (by decide) rfl ?_
      refine tr_goto hC dX6_stepBack_103 (tgt := 25) rfl ?_
      exact tr_weak (tl_n (tl_s (tl_s (tl_s (tl_s (tl_s (tl_s (tl_s (tl_s (tl_s (tl_n (tl_n (tl_nil _))))))))))))) h
    · replace h := h.2 c38
      refine tr_aload hC dX6_stepBack_41 rfl ?_
      refine tr_iload hC dX6_stepBack_43 rfl ?_
      refine tr_iconst (v := 1) hC dX6_stepBack_45 (by decide) ?_
      refine tr_iadd hC dX6_stepBack_46 ?_
      obtain ⟨g4, h⟩ := h
      refine tr_al (v := mem q7 (Int32.toNatClampNeg (v9 + 1))) hC dX6_stepBack_47 hq7 g4 rfl ?_
      refine tr_goto hC dX6_stepBack_48 (tgt := 53) rfl ?_
      refine tr_istore (loc2 := [none, some (.inr 1), some (.inr 10), some (.inl v3), some (.inl v4), some (.inl v5), some (.inl v6), some (.inr q7), some (.inl v8), some (.inl v9), some (.inl (mem q7 (Int32.toNatClampNeg (v9 + 1)))), none]) hC dX6_stepBack_53 (by decide) rfl ?_
      refine tr_iload hC dX6_stepBack_55 rfl ?_
      refine tr_aload hC dX6_stepBack_57 rfl ?_
      refine tr_iload hC dX6_stepBack_59 rfl ?_
      obtain ⟨g5, h⟩ := h
      refine tr_al (v := mem q7 v9.toNatClampNeg) hC dX6_stepBack_61 hq7 g5 rfl ?_
      refine tr_aload_n hC dX6_stepBack_62 rfl rfl ?_
      refine tr_xVi (As := []) (fr2 := 0) (lo2 := 0) hC dX6_stepBack_63 mc_X6_102 mv_X2_stayCost sh_1 rfl ⟨Nat.le_of_ble_eq_true rfl, Nat.le_of_ble_eq_true rfl, Nat.le_of_ble_eq_true rfl⟩ rfl (C_X2_stayCost _ mem ) ?_
      refine tr_iadd hC dX6_stepBack_66 ?_
      refine tr_min hC dX6_stepBack_67 mm_X6_81 ⟨Nat.le_of_ble_eq_true rfl, Nat.le_of_ble_eq_true rfl⟩ ?_
      refine tr_istore (loc2 := [none, some (.inr 1), some (.inr 10), some (.inl v3), some (.inl v4), some (.inl v5), some (.inl v6), some (.inr q7), some (.inl v8), some (.inl v9), some (.inl (mem q7 (Int32.toNatClampNeg (v9 + 1)))), some (.inl (imin (mem q7 (Int32.toNatClampNeg (v9 + 1))) ((mem q7 v9.toNatClampNeg) + (mem 1 3))))]) hC dX6_stepBack_70 (by decide) rfl ?_
      refine tr_aload hC dX6_stepBack_72 rfl ?_
      refine tr_iload hC dX6_stepBack_74 rfl ?_
      refine tr_ldc hC dX6_stepBack_76 lc_X6_39 ?_
      refine tr_iload hC dX6_stepBack_78 rfl ?_
      refine tr_aload_n hC dX6_stepBack_80 rfl rfl ?_
      refine tr_aload_n hC dX6_stepBack_81 rfl rfl ?_
      refine tr_iload_n hC dX6_stepBack_82 rfl rfl ?_
      refine tr_iload hC dX6_stepBack_83 rfl ?_
      refine tr_iload hC dX6_stepBack_85 rfl ?_
      obtain ⟨g6, h⟩ := h
      refine tr_xVi (As := [.inl v3, .inl v4, .inl v9]) (fr2 := 0) (lo2 := 0) hC dX6_stepBack_87 mc_X6_105 mv_X5_soundOf sh_10 rfl ⟨Nat.le_of_ble_eq_true rfl, Nat.le_of_ble_eq_true rfl, Nat.le_of_ble_eq_true rfl⟩ rfl (C_X5_soundOf _ mem v3 v4 v9 g6) ?_
      refine tr_iload hC dX6_stepBack_90 rfl ?_
      obtain ⟨g7, h⟩ := h
      refine tr_xVi (As := [.inl (mem (12 + (Int32.toNatClampNeg ((v3 * 2) + v4))) v9.toNatClampNeg), .inl v5]) (fr2 := 0) (lo2 := 0) hC dX6_stepBack_92 mc_X6_109 mv_X2_costAt sh_1 rfl ⟨Nat.le_of_ble_eq_true rfl, Nat.le_of_ble_eq_true rfl, Nat.le_of_ble_eq_true rfl⟩ rfl (C_X2_costAt _ mem (mem (12 + (Int32.toNatClampNeg ((v3 * 2) + v4))) v9.toNatClampNeg) v5 g7) ?_
      refine tr_iadd hC dX6_stepBack_95 ?_
      refine tr_min hC dX6_stepBack_96 mm_X6_81 ⟨Nat.le_of_ble_eq_true rfl, Nat.le_of_ble_eq_true rfl⟩ ?_
      refine tr_iast hC dX6_stepBack_99 hq7 g5 ?_
      refine tr_iinc (v := v9 + 1) (loc2 := [none, some (.inr 1), some (.inr 10), some (.inl v3), some (.inl v4), some (.inl v5), some (.inl v6), some (.inr q7), some (.inl v8), some (.inl (v9 + 1)), some (.inl (mem q7 (Int32.toNatClampNeg (v9 + 1)))), some (.inl (imin (mem q7 (Int32.toNatClampNeg (v9 + 1))) ((mem q7 v9.toNatClampNeg) + (mem 1 3))))]) hC dX6_stepBack_100 rfl rfl (by decide) rfl ?_
      refine tr_goto hC dX6_stepBack_103 (tgt := 25) rfl ?_
      exact tr_weak (tl_n (tl_s (tl_s (tl_s (tl_s (tl_s (tl_s (tl_s (tl_s (tl_s (tl_n (tl_n (tl_nil _))))))))))))) h
set_option maxRecDepth 100000 in
theorem K_X6_lookAhead_0 {κ : TCx} {post0 : Option TV → TMem → Prop} (hC : TC κ RX6 cX6_lookAhead 8 3 71) (hT : TR κ none post0) (mem : TMem) (h : WT κ 2 [some (.inr 40), some (.inr 1), some (.inr 10), some (.inl 0), none, none, none, none] [] mem) : WT κ 0 [some (.inr 40), some (.inr 1), some (.inr 10), none, none, none, none, none] [] mem := by
  refine tr_iconst (v := 0) hC dX6_lookAhead_0 (by decide) ?_
  refine tr_istore_n (loc2 := [some (.inr 40), some (.inr 1), some (.inr 10), some (.inl 0), none, none, none, none]) hC dX6_lookAhead_1 rfl (by decide) rfl ?_
  exact h
set_option maxRecDepth 100000 in
theorem K_X6_lookAhead_2 {κ : TCx} {post0 : Option TV → TMem → Prop} (hC : TC κ RX6 cX6_lookAhead 8 3 71) (hT : TR κ none post0) (mem : TMem) (v3 : Int32) (h : (16 ≤ v3 → (WT κ 32 [some (.inr 40), some (.inr 1), some (.inr 10), some (.inl ((mem 1 2) - 1)), none, none, none, none] [] mem)) ∧ (¬ (16 ≤ v3) → (vp_in v3 16 ∧ (∃ post : TMem → Prop, TMv κ.1.2.1 i_J7_fill_53178 0 0 [.inr (83 + v3.toNatClampNeg), .inl 1000000] mem post ∧ ∀ (m16 : TMem), post m16 → (WT κ 2 [some (.inr 40), some (.inr 1), some (.inr 10), some (.inl (v3 + 1)), none, none, none, none] [] m16))))) : WT κ 2 [some (.inr 40), some (.inr 1), some (.inr 10), some (.inl v3), none, none, none, none] [] mem := by
  refine tr_iload_n hC dX6_lookAhead_2 rfl rfl ?_
  refine tr_bipush (v := 16) hC dX6_lookAhead_3 (by decide) ?_
  refine tr_icmp_ge hC dX6_lookAhead_5 (tgt := 25) rfl (fun c5 => ?_) (fun c5 => ?_)
  · replace h := h.1 c5
    refine tr_aload_n hC dX6_lookAhead_25 rfl rfl ?_
    refine tr_xVi (As := []) (fr2 := 0) (lo2 := 0) hC dX6_lookAhead_26 mc_X6_55 mv_X2_frames sh_1 rfl ⟨Nat.le_of_ble_eq_true rfl, Nat.le_of_ble_eq_true rfl, Nat.le_of_ble_eq_true rfl⟩ rfl (C_X2_frames _ mem ) ?_
    refine tr_iconst (v := 1) hC dX6_lookAhead_29 (by decide) ?_
    refine tr_isub hC dX6_lookAhead_30 ?_
    refine tr_istore_n (loc2 := [some (.inr 40), some (.inr 1), some (.inr 10), some (.inl ((mem 1 2) - 1)), none, none, none, none]) hC dX6_lookAhead_31 rfl (by decide) rfl ?_
    exact h
  · replace h := h.2 c5
    refine tr_aload_n hC dX6_lookAhead_8 rfl rfl ?_
    refine tr_getr hC dX6_lookAhead_9 gf_X6_16 sh_40 rfl ?_
    refine tr_iload_n hC dX6_lookAhead_12 rfl rfl ?_
    obtain ⟨g1, h⟩ := h
    refine tr_aald hC dX6_lookAhead_13 sh_82 g1 ?_
    refine tr_ldc hC dX6_lookAhead_14 lc_X6_39 ?_
    obtain ⟨post16, hM16, h⟩ := h
    refine tr_cSv (As := [.inr (83 + v3.toNatClampNeg), .inl 1000000]) (fr2 := 0) (lo2 := 0) hC dX6_lookAhead_16 mc_X6_86 mst_J7_fill_53178 ⟨Nat.le_of_ble_eq_true rfl, Nat.le_of_ble_eq_true rfl, Nat.le_of_ble_eq_true rfl⟩ rfl hM16 (fun m16 hp16 => ?_)
    replace h := h m16 hp16
    refine tr_iinc (v := v3 + 1) (loc2 := [some (.inr 40), some (.inr 1), some (.inr 10), some (.inl (v3 + 1)), none, none, none, none]) hC dX6_lookAhead_19 rfl rfl (by decide) rfl ?_
    refine tr_goto hC dX6_lookAhead_22 (tgt := 2) rfl ?_
    exact h
set_option maxRecDepth 100000 in
theorem K_X6_lookAhead_32 {κ : TCx} {post0 : Option TV → TMem → Prop} (hC : TC κ RX6 cX6_lookAhead 8 3 71) (hT : TR κ none post0) (mem : TMem) (v3 : Int32) (h : (v3 < 0 → post0 none mem) ∧ (¬ (v3 < 0) → ((v3 = ((mem 1 2) - 1) → (WT κ 56 [some (.inr 40), some (.inr 1), some (.inr 10), some (.inl v3), some (.inl 1), some (.inl 0), none, none] [] mem)) ∧ (¬ (v3 = ((mem 1 2) - 1)) → (WT κ 56 [some (.inr 40), some (.inr 1), some (.inr 10), some (.inl v3), some (.inl 0), some (.inl 0), none, none] [] mem))))) : WT κ 32 [some (.inr 40), some (.inr 1), some (.inr 10), some (.inl v3), none, none, none, none] [] mem := by
  refine tr_iload_n hC dX6_lookAhead_32 rfl rfl ?_
  refine tr_if_lt hC dX6_lookAhead_33 (tgt := 170) rfl (fun c33 => ?_) (fun c33 => ?_)
  · replace h := h.1 c33
    exact tr_vret hC hT dX6_lookAhead_170 h
  · replace h := h.2 c33
    refine tr_iload_n hC dX6_lookAhead_36 rfl rfl ?_
    refine tr_aload_n hC dX6_lookAhead_37 rfl rfl ?_
    refine tr_xVi (As := []) (fr2 := 0) (lo2 := 0) hC dX6_lookAhead_38 mc_X6_55 mv_X2_frames sh_1 rfl ⟨Nat.le_of_ble_eq_true rfl, Nat.le_of_ble_eq_true rfl, Nat.le_of_ble_eq_true rfl⟩ rfl (C_X2_frames _ mem ) ?_
    refine tr_iconst (v := 1) hC dX6_lookAhead_41 (by decide) ?_
    refine tr_isub hC dX6_lookAhead_42 ?_
    refine tr_icmp_ne hC dX6_lookAhead_43 (tgt := 50) rfl (fun c43 => ?_) (fun c43 => ?_)
    · replace h := h.2 c43
      refine tr_iconst (v := 0) hC dX6_lookAhead_50 (by decide) ?_
      refine tr_istore (loc2 := [some (.inr 40), some (.inr 1), some (.inr 10), some (.inl v3), some (.inl 0), none, none, none]) hC dX6_lookAhead_51 (by decide) rfl ?_
      refine tr_iconst (v := 0) hC dX6_lookAhead_53 (by decide) ?_
      refine tr_istore (loc2 := [some (.inr 40), some (.inr 1), some (.inr 10), some (.inl v3), some (.inl 0), some (.inl 0), none, none]) hC dX6_lookAhead_54 (by decide) rfl ?_
      exact h
    · replace h := h.1 c43
      refine tr_iconst (v := 1) hC dX6_lookAhead_46 (by decide) ?_
      refine tr_goto hC dX6_lookAhead_47 (tgt := 51) rfl ?_
      refine tr_istore (loc2 := [some (.inr 40), some (.inr 1), some (.inr 10), some (.inl v3), some (.inl 1), none, none, none]) hC dX6_lookAhead_51 (by decide) rfl ?_
      refine tr_iconst (v := 0) hC dX6_lookAhead_53 (by decide) ?_
      refine tr_istore (loc2 := [some (.inr 40), some (.inr 1), some (.inr 10), some (.inl v3), some (.inl 1), some (.inl 0), none, none]) hC dX6_lookAhead_54 (by decide) rfl ?_
      exact h
set_option maxRecDepth 100000 in
theorem K_X6_lookAhead_56 {κ : TCx} {post0 : Option TV → TMem → Prop} (hC : TC κ RX6 cX6_lookAhead 8 3 71) (hT : TR κ none post0) (mem : TMem) (v3 : Int32) (v4 : Int32) (v5 : Int32) (h : ((mem 10 4) ≤ v5 → (WT κ 32 [some (.inr 40), some (.inr 1), some (.inr 10), some (.inl (v3 + (-1))), none, none, none, none] [] mem)) ∧ (¬ ((mem 10 4) ≤ v5) → ((v4 = 0 → (∃ post : Int32 → TMem → Prop, TMi κ.1.2.1 i_X6_cheapestBehind 2 45 [.inr 40, .inr 10, .inl v5, .inl (v3 + 1), .inl (-1)] mem post ∧ ∀ (x88 : Int32) (m88 : TMem), post x88 m88 → (vp_in v3 40 ∧ (vp_in v5 8 ∧ (WT κ 107 [some (.inr 40), some (.inr 1), some (.inr 10), some (.inl v3), some (.inl v4), some (.inl v5), some (.inl x88), some (.inl 0)] [] (mset m88 (42 + v3.toNatClampNeg) v5.toNatClampNeg 1000000)))))) ∧ (¬ (v4 = 0) → ((G_X5_joint v5 (-1)) ∧ (vp_in v3 40 ∧ (vp_in v5 8 ∧ (WT κ 107 [some (.inr 40), some (.inr 1), some (.inr 10), some (.inl v3), some (.inl v4), some (.inl v5), some (.inl (F_X5_joint mem v5 (-1))), some (.inl 0)] [] (mset mem (42 + v3.toNatClampNeg) v5.toNatClampNeg 1000000))))))))) : WT κ 56 [some (.inr 40), some (.inr 1), some (.inr 10), some (.inl v3), some (.inl v4), some (.inl v5), none, none] [] mem := by
  refine tr_iload hC dX6_lookAhead_56 rfl ?_
  refine tr_aload_n hC dX6_lookAhead_58 rfl rfl ?_
  refine tr_xVi (As := []) (fr2 := 0) (lo2 := 0) hC dX6_lookAhead_59 mc_X6_72 mv_X5_words sh_10 rfl ⟨Nat.le_of_ble_eq_true rfl, Nat.le_of_ble_eq_true rfl, Nat.le_of_ble_eq_true rfl⟩ rfl (C_X5_words _ mem ) ?_
  refine tr_icmp_ge hC dX6_lookAhead_62 (tgt := 164) rfl (fun c62 => ?_) (fun c62 => ?_)
  · replace h := h.1 c62
    refine tr_iinc (v := v3 + (-1)) (loc2 := [some (.inr 40), some (.inr 1), some (.inr 10), some (.inl (v3 + (-1))), some (.inl v4), some (.inl v5), none, none]) hC dX6_lookAhead_164 rfl rfl (by decide) rfl ?_
    refine tr_goto hC dX6_lookAhead_167 (tgt := 32) rfl ?_
    exact tr_weak (tl_s (tl_s (tl_s (tl_s (tl_n (tl_n (tl_n (tl_n (tl_nil _))))))))) h
  · replace h := h.2 c62
    refine tr_iload hC dX6_lookAhead_65 rfl ?_
    refine tr_if_eq hC dX6_lookAhead_67 (tgt := 80) rfl (fun c67 => ?_) (fun c67 => ?_)
    · replace h := h.1 c67
      refine tr_aload_n hC dX6_lookAhead_80 rfl rfl ?_
      refine tr_aload_n hC dX6_lookAhead_81 rfl rfl ?_
      refine tr_iload hC dX6_lookAhead_82 rfl ?_
      refine tr_iload_n hC dX6_lookAhead_84 rfl rfl ?_
      refine tr_iconst (v := 1) hC dX6_lookAhead_85 (by decide) ?_
      refine tr_iadd hC dX6_lookAhead_86 ?_
      refine tr_iconst (v := (-1)) hC dX6_lookAhead_87 (by decide) ?_
      obtain ⟨post88, hM88, h⟩ := h
      refine tr_cVi (As := [.inr 10, .inl v5, .inl (v3 + 1), .inl (-1)]) (fr2 := 2) (lo2 := 45) hC dX6_lookAhead_88 mc_X6_61 mv_X6_cheapestBehind sh_40 rfl ⟨Nat.le_of_ble_eq_true rfl, Nat.le_of_ble_eq_true rfl, Nat.le_of_ble_eq_true rfl⟩ rfl hM88 (fun x88 m88 hp88 => ?_)
      replace h := h x88 m88 hp88
      refine tr_istore (loc2 := [some (.inr 40), some (.inr 1), some (.inr 10), some (.inl v3), some (.inl v4), some (.inl v5), some (.inl x88), none]) hC dX6_lookAhead_91 (by decide) rfl ?_
      refine tr_aload_n hC dX6_lookAhead_93 rfl rfl ?_
      refine tr_getr hC dX6_lookAhead_94 gf_X6_11 sh_40 rfl ?_
      refine tr_iload_n hC dX6_lookAhead_97 rfl rfl ?_
      obtain ⟨g1, h⟩ := h
      refine tr_aald hC dX6_lookAhead_98 sh_41 g1 ?_
      refine tr_iload hC dX6_lookAhead_99 rfl ?_
      refine tr_ldc hC dX6_lookAhead_101 lc_X6_39 ?_
      obtain ⟨g2, h⟩ := h
      refine tr_iast hC dX6_lookAhead_103 (shr_41 _ (vp_lt g1)) g2 ?_
      refine tr_iconst (v := 0) hC dX6_lookAhead_104 (by decide) ?_
      refine tr_istore (loc2 := [some (.inr 40), some (.inr 1), some (.inr 10), some (.inl v3), some (.inl v4), some (.inl v5), some (.inl x88), some (.inl 0)]) hC dX6_lookAhead_105 (by decide) rfl ?_
      exact h
    · replace h := h.2 c67
      refine tr_aload_n hC dX6_lookAhead_70 rfl rfl ?_
      refine tr_iload hC dX6_lookAhead_71 rfl ?_
      refine tr_iconst (v := (-1)) hC dX6_lookAhead_73 (by decide) ?_
      obtain ⟨g3, h⟩ := h
      refine tr_xVi (As := [.inl v5, .inl (-1)]) (fr2 := 1) (lo2 := 22) hC dX6_lookAhead_74 mc_X6_77 mv_X5_joint sh_10 rfl ⟨Nat.le_of_ble_eq_true rfl, Nat.le_of_ble_eq_true rfl, Nat.le_of_ble_eq_true rfl⟩ rfl (C_X5_joint _ mem v5 (-1) g3) ?_
      refine tr_goto hC dX6_lookAhead_77 (tgt := 91) rfl ?_
      refine tr_istore (loc2 := [some (.inr 40), some (.inr 1), some (.inr 10), some (.inl v3), some (.inl v4), some (.inl v5), some (.inl (F_X5_joint mem v5 (-1))), none]) hC dX6_lookAhead_91 (by decide) rfl ?_
      refine tr_aload_n hC dX6_lookAhead_93 rfl rfl ?_
      refine tr_getr hC dX6_lookAhead_94 gf_X6_11 sh_40 rfl ?_
      refine tr_iload_n hC dX6_lookAhead_97 rfl rfl ?_
      obtain ⟨g4, h⟩ := h
      refine tr_aald hC dX6_lookAhead_98 sh_41 g4 ?_
      refine tr_iload hC dX6_lookAhead_99 rfl ?_
      refine tr_ldc hC dX6_lookAhead_101 lc_X6_39 ?_
      obtain ⟨g5, h⟩ := h
      refine tr_iast hC dX6_lookAhead_103 (shr_41 _ (vp_lt g4)) g5 ?_
      refine tr_iconst (v := 0) hC dX6_lookAhead_104 (by decide) ?_
      refine tr_istore (loc2 := [some (.inr 40), some (.inr 1), some (.inr 10), some (.inl v3), some (.inl v4), some (.inl v5), some (.inl (F_X5_joint mem v5 (-1))), some (.inl 0)]) hC dX6_lookAhead_105 (by decide) rfl ?_
      exact h
set_option maxRecDepth 100000 in
theorem K_X6_lookAhead_107 {κ : TCx} {post0 : Option TV → TMem → Prop} (hC : TC κ RX6 cX6_lookAhead 8 3 71) (hT : TR κ none post0) (mem : TMem) (v3 : Int32) (v4 : Int32) (v5 : Int32) (v6 : Int32) (v7 : Int32) (h : G_X5_waysOf v5 ∧ (((mem 29 v5.toNatClampNeg) ≤ v7 → (WT κ 56 [some (.inr 40), some (.inr 1), some (.inr 10), some (.inl v3), some (.inl v4), some (.inl (v5 + 1)), none, none] [] mem)) ∧ (¬ ((mem 29 v5.toNatClampNeg) ≤ v7) → (vp_in v3 40 ∧ (vp_in v5 8 ∧ (∃ post : Int32 → TMem → Prop, TMi κ.1.2.1 i_X6_stepBack 1 23 [.inr 40, .inr 1, .inr 10, .inl v5, .inl v7, .inl v3, .inl v6] mem post ∧ ∀ (x145 : Int32) (m145 : TMem), post x145 m145 → (WT κ 107 [some (.inr 40), some (.inr 1), some (.inr 10), some (.inl v3), some (.inl v4), some (.inl v5), some (.inl v6), some (.inl (v7 + 1))] [] (mset m145 (42 + v3.toNatClampNeg) v5.toNatClampNeg (imin (mem (42 + v3.toNatClampNeg) v5.toNatClampNeg) x145))))))))) : WT κ 107 [some (.inr 40), some (.inr 1), some (.inr 10), some (.inl v3), some (.inl v4), some (.inl v5), some (.inl v6), some (.inl v7)] [] mem := by
  refine tr_iload hC dX6_lookAhead_107 rfl ?_
  refine tr_aload_n hC dX6_lookAhead_109 rfl rfl ?_
  refine tr_iload hC dX6_lookAhead_110 rfl ?_
  obtain ⟨g1, h⟩ := h
  refine tr_xVi (As := [.inl v5]) (fr2 := 0) (lo2 := 0) hC dX6_lookAhead_112 mc_X6_92 mv_X5_waysOf sh_10 rfl ⟨Nat.le_of_ble_eq_true rfl, Nat.le_of_ble_eq_true rfl, Nat.le_of_ble_eq_true rfl⟩ rfl (C_X5_waysOf _ mem v5 g1) ?_
  refine tr_icmp_ge hC dX6_lookAhead_115 (tgt := 158) rfl (fun c115 => ?_) (fun c115 => ?_)
  · replace h := h.1 c115
    refine tr_iinc (v := v5 + 1) (loc2 := [some (.inr 40), some (.inr 1), some (.inr 10), some (.inl v3), some (.inl v4), some (.inl (v5 + 1)), some (.inl v6), some (.inl v7)]) hC dX6_lookAhead_158 rfl rfl (by decide) rfl ?_
    refine tr_goto hC dX6_lookAhead_161 (tgt := 56) rfl ?_
    exact tr_weak (tl_s (tl_s (tl_s (tl_s (tl_s (tl_s (tl_n (tl_n (tl_nil _))))))))) h
  · replace h := h.2 c115
    refine tr_aload_n hC dX6_lookAhead_118 rfl rfl ?_
    refine tr_getr hC dX6_lookAhead_119 gf_X6_11 sh_40 rfl ?_
    refine tr_iload_n hC dX6_lookAhead_122 rfl rfl ?_
    obtain ⟨g2, h⟩ := h
    refine tr_aald hC dX6_lookAhead_123 sh_41 g2 ?_
    refine tr_iload hC dX6_lookAhead_124 rfl ?_
    refine tr_aload_n hC dX6_lookAhead_126 rfl rfl ?_
    refine tr_getr hC dX6_lookAhead_127 gf_X6_11 sh_40 rfl ?_
    refine tr_iload_n hC dX6_lookAhead_130 rfl rfl ?_
    refine tr_aald hC dX6_lookAhead_131 sh_41 g2 ?_
    refine tr_iload hC dX6_lookAhead_132 rfl ?_
    obtain ⟨g3, h⟩ := h
    refine tr_al (v := mem (42 + v3.toNatClampNeg) v5.toNatClampNeg) hC dX6_lookAhead_134 (shr_41 _ (vp_lt g2)) g3 rfl ?_
    refine tr_aload_n hC dX6_lookAhead_135 rfl rfl ?_
    refine tr_aload_n hC dX6_lookAhead_136 rfl rfl ?_
    refine tr_aload_n hC dX6_lookAhead_137 rfl rfl ?_
    refine tr_iload hC dX6_lookAhead_138 rfl ?_
    refine tr_iload hC dX6_lookAhead_140 rfl ?_
    refine tr_iload_n hC dX6_lookAhead_142 rfl rfl ?_
    refine tr_iload hC dX6_lookAhead_143 rfl ?_
    obtain ⟨post145, hM145, h⟩ := h
    refine tr_cVi (As := [.inr 1, .inr 10, .inl v5, .inl v7, .inl v3, .inl v6]) (fr2 := 1) (lo2 := 23) hC dX6_lookAhead_145 mc_X6_95 mv_X6_stepBack sh_40 rfl ⟨Nat.le_of_ble_eq_true rfl, Nat.le_of_ble_eq_true rfl, Nat.le_of_ble_eq_true rfl⟩ rfl hM145 (fun x145 m145 hp145 => ?_)
    replace h := h x145 m145 hp145
    refine tr_min hC dX6_lookAhead_148 mm_X6_81 ⟨Nat.le_of_ble_eq_true rfl, Nat.le_of_ble_eq_true rfl⟩ ?_
    refine tr_iast hC dX6_lookAhead_151 (shr_41 _ (vp_lt g2)) g3 ?_
    refine tr_iinc (v := v7 + 1) (loc2 := [some (.inr 40), some (.inr 1), some (.inr 10), some (.inl v3), some (.inl v4), some (.inl v5), some (.inl v6), some (.inl (v7 + 1))]) hC dX6_lookAhead_152 rfl rfl (by decide) rfl ?_
    refine tr_goto hC dX6_lookAhead_155 (tgt := 107) rfl ?_
    exact h
set_option maxRecDepth 100000 in
theorem K_X6_firstThatLeadsOn_0 {κ : TCx} {post0 : Option TV → TMem → Prop} (hC : TC κ RX6 cX6_firstThatLeadsOn 6 2 45) (hT : TR κ (some .int) post0) (mem : TMem) (p1 : Int32) (p2 : Int32) (h : WT κ 3 [some (.inr 40), some (.inr 10), some (.inl p1), some (.inl p2), some (.inl 0), none] [] mem) : WT κ 0 [some (.inr 40), some (.inr 10), some (.inl p1), some (.inl p2), none, none] [] mem := by
  refine tr_iconst (v := 0) hC dX6_firstThatLeadsOn_0 (by decide) ?_
  refine tr_istore (loc2 := [some (.inr 40), some (.inr 10), some (.inl p1), some (.inl p2), some (.inl 0), none]) hC dX6_firstThatLeadsOn_1 (by decide) rfl ?_
  exact h
set_option maxRecDepth 100000 in
theorem K_X6_firstThatLeadsOn_3 {κ : TCx} {post0 : Option TV → TMem → Prop} (hC : TC κ RX6 cX6_firstThatLeadsOn 6 2 45) (hT : TR κ (some .int) post0) (mem : TMem) (v2 : Int32) (v3 : Int32) (v4 : Int32) (h : ((mem 10 4) ≤ v4 → (post0 (some (.inl (-1))) mem)) ∧ (¬ ((mem 10 4) ≤ v4) → (WT κ 15 [some (.inr 40), some (.inr 10), some (.inl v2), some (.inl v3), some (.inl v4), some (.inl 0)] [] mem))) : WT κ 3 [some (.inr 40), some (.inr 10), some (.inl v2), some (.inl v3), some (.inl v4), none] [] mem := by
  refine tr_iload hC dX6_firstThatLeadsOn_3 rfl ?_
  refine tr_aload_n hC dX6_firstThatLeadsOn_5 rfl rfl ?_
  refine tr_xVi (As := []) (fr2 := 0) (lo2 := 0) hC dX6_firstThatLeadsOn_6 mc_X6_72 mv_X5_words sh_10 rfl ⟨Nat.le_of_ble_eq_true rfl, Nat.le_of_ble_eq_true rfl, Nat.le_of_ble_eq_true rfl⟩ rfl (C_X5_words _ mem ) ?_
  refine tr_icmp_ge hC dX6_firstThatLeadsOn_9 (tgt := 69) rfl (fun c9 => ?_) (fun c9 => ?_)
  · replace h := h.1 c9
    refine tr_iconst (v := (-1)) hC dX6_firstThatLeadsOn_69 (by decide) ?_
    exact tr_iret hC hT dX6_firstThatLeadsOn_70 h
  · replace h := h.2 c9
    refine tr_iconst (v := 0) hC dX6_firstThatLeadsOn_12 (by decide) ?_
    refine tr_istore (loc2 := [some (.inr 40), some (.inr 10), some (.inl v2), some (.inl v3), some (.inl v4), some (.inl 0)]) hC dX6_firstThatLeadsOn_13 (by decide) rfl ?_
    exact h
set_option maxRecDepth 100000 in
theorem K_X6_firstThatLeadsOn_15 {κ : TCx} {post0 : Option TV → TMem → Prop} (hC : TC κ RX6 cX6_firstThatLeadsOn 6 2 45) (hT : TR κ (some .int) post0) (mem : TMem) (v2 : Int32) (v3 : Int32) (v4 : Int32) (v5 : Int32) (h : (v3 ≤ v5 → (WT κ 3 [some (.inr 40), some (.inr 10), some (.inl v2), some (.inl v3), some (.inl (v4 + 1)), none] [] mem)) ∧ (¬ (v3 ≤ v5) → (vp_in v5 41 ∧ (G_X5_joint v2 v4 ∧ (vp_in v5 40 ∧ (vp_in v4 8 ∧ (((((mem 99 v5.toNatClampNeg) + (F_X5_joint mem v2 v4)) + (mem (42 + v5.toNatClampNeg) v4.toNatClampNeg)) = (mem 40 5) → post0 (some (.inl v4)) mem) ∧ (¬ ((((mem 99 v5.toNatClampNeg) + (F_X5_joint mem v2 v4)) + (mem (42 + v5.toNatClampNeg) v4.toNatClampNeg)) = (mem 40 5)) → (WT κ 15 [some (.inr 40), some (.inr 10), some (.inl v2), some (.inl v3), some (.inl v4), some (.inl (v5 + 1))] [] mem))))))))) : WT κ 15 [some (.inr 40), some (.inr 10), some (.inl v2), some (.inl v3), some (.inl v4), some (.inl v5)] [] mem := by
  refine tr_iload hC dX6_firstThatLeadsOn_15 rfl ?_
  refine tr_iload_n hC dX6_firstThatLeadsOn_17 rfl rfl ?_
  refine tr_icmp_ge hC dX6_firstThatLeadsOn_18 (tgt := 63) rfl (fun c18 => ?_) (fun c18 => ?_)
  · replace h := h.1 c18
    refine tr_iinc (v := v4 + 1) (loc2 := [some (.inr 40), some (.inr 10), some (.inl v2), some (.inl v3), some (.inl (v4 + 1)), some (.inl v5)]) hC dX6_firstThatLeadsOn_63 rfl rfl (by decide) rfl ?_
    refine tr_goto hC dX6_firstThatLeadsOn_66 (tgt := 3) rfl ?_
    exact tr_weak (tl_s (tl_s (tl_s (tl_s (tl_s (tl_n (tl_nil _))))))) h
  · replace h := h.2 c18
    refine tr_aload_n hC dX6_firstThatLeadsOn_21 rfl rfl ?_
    refine tr_getr hC dX6_firstThatLeadsOn_22 gf_X6_19 sh_40 rfl ?_
    refine tr_iload hC dX6_firstThatLeadsOn_25 rfl ?_
    obtain ⟨g1, h⟩ := h
    refine tr_al (v := mem 99 v5.toNatClampNeg) hC dX6_firstThatLeadsOn_27 sh_99 g1 rfl ?_
    refine tr_aload_n hC dX6_firstThatLeadsOn_28 rfl rfl ?_
    refine tr_iload_n hC dX6_firstThatLeadsOn_29 rfl rfl ?_
    refine tr_iload hC dX6_firstThatLeadsOn_30 rfl ?_
    obtain ⟨g2, h⟩ := h
    refine tr_xVi (As := [.inl v2, .inl v4]) (fr2 := 1) (lo2 := 22) hC dX6_firstThatLeadsOn_32 mc_X6_77 mv_X5_joint sh_10 rfl ⟨Nat.le_of_ble_eq_true rfl, Nat.le_of_ble_eq_true rfl, Nat.le_of_ble_eq_true rfl⟩ rfl (C_X5_joint _ mem v2 v4 g2) ?_
    refine tr_iadd hC dX6_firstThatLeadsOn_35 ?_
    refine tr_aload_n hC dX6_firstThatLeadsOn_36 rfl rfl ?_
    refine tr_getr hC dX6_firstThatLeadsOn_37 gf_X6_11 sh_40 rfl ?_
    refine tr_iload hC dX6_firstThatLeadsOn_40 rfl ?_
    obtain ⟨g3, h⟩ := h
    refine tr_aald hC dX6_firstThatLeadsOn_42 sh_41 g3 ?_
    refine tr_iload hC dX6_firstThatLeadsOn_43 rfl ?_
    obtain ⟨g4, h⟩ := h
    refine tr_al (v := mem (42 + v5.toNatClampNeg) v4.toNatClampNeg) hC dX6_firstThatLeadsOn_45 (shr_41 _ (vp_lt g3)) g4 rfl ?_
    refine tr_iadd hC dX6_firstThatLeadsOn_46 ?_
    refine tr_aload_n hC dX6_firstThatLeadsOn_47 rfl rfl ?_
    refine tr_gi (v := mem 40 5) hC dX6_firstThatLeadsOn_48 gf_X6_40 sh_40 rfl rfl ?_
    refine tr_icmp_ne hC dX6_firstThatLeadsOn_51 (tgt := 57) rfl (fun c51 => ?_) (fun c51 => ?_)
    · replace h := h.2 c51
      refine tr_iinc (v := v5 + 1) (loc2 := [some (.inr 40), some (.inr 10), some (.inl v2), some (.inl v3), some (.inl v4), some (.inl (v5 + 1))]) hC dX6_firstThatLeadsOn_57 rfl rfl (by decide) rfl ?_
      refine tr_goto hC dX6_firstThatLeadsOn_60 (tgt := 15) rfl ?_
      exact h
    · replace h := h.1 c51
      refine tr_iload hC dX6_firstThatLeadsOn_54 rfl ?_
      exact tr_iret hC hT dX6_firstThatLeadsOn_56 h
set_option maxRecDepth 100000 in
theorem K_X8_step_100_1_10_0 {κ : TCx} {post0 : Option TV → TMem → Prop} (hC : TC κ RX8 cX8_step 9 1 23) (hT : TR κ none post0) (mem : TMem) (p1 : Int32) (p2 : Int32) (p3 : Int32) (h : G_X5_lengthOf p1 p2 ∧ (WT κ 11 [some (.inr 100), some (.inr 1), some (.inr 10), some (.inl p1), some (.inl p2), some (.inl p3), some (.inl ((mem 28 (Int32.toNatClampNeg ((p1 * 2) + p2))) - 1)), none, none] [] mem)) : WT κ 0 [some (.inr 100), some (.inr 1), some (.inr 10), some (.inl p1), some (.inl p2), some (.inl p3), none, none, none] [] mem := by
  refine tr_aload_n hC dX8_step_0 rfl rfl ?_
  refine tr_iload_n hC dX8_step_1 rfl rfl ?_
  refine tr_iload hC dX8_step_2 rfl ?_
  obtain ⟨g1, h⟩ := h
  refine tr_xVi (As := [.inl p1, .inl p2]) (fr2 := 0) (lo2 := 0) hC dX8_step_4 mc_X8_40 mv_X5_lengthOf sh_10 rfl ⟨Nat.le_of_ble_eq_true rfl, Nat.le_of_ble_eq_true rfl, Nat.le_of_ble_eq_true rfl⟩ rfl (C_X5_lengthOf _ mem p1 p2 g1) ?_
  refine tr_iconst (v := 1) hC dX8_step_7 (by decide) ?_
  refine tr_isub hC dX8_step_8 ?_
  refine tr_istore (loc2 := [some (.inr 100), some (.inr 1), some (.inr 10), some (.inl p1), some (.inl p2), some (.inl p3), some (.inl ((mem 28 (Int32.toNatClampNeg ((p1 * 2) + p2))) - 1)), none, none]) hC dX8_step_9 (by decide) rfl ?_
  exact h
set_option maxRecDepth 100000 in
theorem K_X8_step_100_1_10_11 {κ : TCx} {post0 : Option TV → TMem → Prop} (hC : TC κ RX8 cX8_step 9 1 23) (hT : TR κ none post0) (mem : TMem) (v3 : Int32) (v4 : Int32) (v5 : Int32) (v6 : Int32) (h : (v6 < 0 → post0 none mem) ∧ (¬ (v6 < 0) → ((v6 = 0 → (vp_in v5 41 ∧ (vp_in v6 4 ∧ (G_X5_soundOf v3 v4 v6 ∧ ((G_X2_costAt mem (mem (12 + (Int32.toNatClampNeg ((v3 * 2) + v4))) v6.toNatClampNeg) v5) ∧ (WT κ 11 [some (.inr 100), some (.inr 1), some (.inr 10), some (.inl v3), some (.inl v4), some (.inl v5), some (.inl (v6 + (-1))), none, none] [] (mset mem 103 v6.toNatClampNeg (imin 1000000 ((imin (mem 101 v5.toNatClampNeg) ((mem 103 v6.toNatClampNeg) + (mem 1 3))) + (F_X2_costAt mem (mem (12 + (Int32.toNatClampNeg ((v3 * 2) + v4))) v6.toNatClampNeg) v5)))))))))) ∧ (¬ (v6 = 0) → ((vp_in (v6 - 1) 4) ∧ (vp_in v6 4 ∧ (G_X5_soundOf v3 v4 v6 ∧ ((G_X2_costAt mem (mem (12 + (Int32.toNatClampNeg ((v3 * 2) + v4))) v6.toNatClampNeg) v5) ∧ (WT κ 11 [some (.inr 100), some (.inr 1), some (.inr 10), some (.inl v3), some (.inl v4), some (.inl v5), some (.inl (v6 + (-1))), none, none] [] (mset mem 103 v6.toNatClampNeg (imin 1000000 ((imin (mem 103 (Int32.toNatClampNeg (v6 - 1))) ((mem 103 v6.toNatClampNeg) + (mem 1 3))) + (F_X2_costAt mem (mem (12 + (Int32.toNatClampNeg ((v3 * 2) + v4))) v6.toNatClampNeg) v5))))))))))))) : WT κ 11 [some (.inr 100), some (.inr 1), some (.inr 10), some (.inl v3), some (.inl v4), some (.inl v5), some (.inl v6), none, none] [] mem := by
  refine tr_iload hC dX8_step_11 rfl ?_
  refine tr_if_lt hC dX8_step_13 (tgt := 97) rfl (fun c13 => ?_) (fun c13 => ?_)
  · replace h := h.1 c13
    exact tr_vret hC hT dX8_step_97 h
  · replace h := h.2 c13
    refine tr_iload hC dX8_step_16 rfl ?_
    refine tr_if_ne hC dX8_step_18 (tgt := 31) rfl (fun c18 => ?_) (fun c18 => ?_)
    · replace h := h.2 c18
      refine tr_aload_n hC dX8_step_31 rfl rfl ?_
      refine tr_getr hC dX8_step_32 gf_X8_18 sh_100 rfl ?_
      refine tr_iload hC dX8_step_35 rfl ?_
      refine tr_iconst (v := 1) hC dX8_step_37 (by decide) ?_
      refine tr_isub hC dX8_step_38 ?_
      obtain ⟨g1, h⟩ := h
      refine tr_al (v := mem 103 (Int32.toNatClampNeg (v6 - 1))) hC dX8_step_39 sh_103 g1 rfl ?_
      refine tr_istore (loc2 := [some (.inr 100), some (.inr 1), some (.inr 10), some (.inl v3), some (.inl v4), some (.inl v5), some (.inl v6), some (.inl (mem 103 (Int32.toNatClampNeg (v6 - 1)))), none]) hC dX8_step_40 (by decide) rfl ?_
      refine tr_iload hC dX8_step_42 rfl ?_
      refine tr_aload_n hC dX8_step_44 rfl rfl ?_
      refine tr_getr hC dX8_step_45 gf_X8_18 sh_100 rfl ?_
      refine tr_iload hC dX8_step_48 rfl ?_
      obtain ⟨g2, h⟩ := h
      refine tr_al (v := mem 103 v6.toNatClampNeg) hC dX8_step_50 sh_103 g2 rfl ?_
      refine tr_aload_n hC dX8_step_51 rfl rfl ?_
      refine tr_xVi (As := []) (fr2 := 0) (lo2 := 0) hC dX8_step_52 mc_X8_47 mv_X2_stayCost sh_1 rfl ⟨Nat.le_of_ble_eq_true rfl, Nat.le_of_ble_eq_true rfl, Nat.le_of_ble_eq_true rfl⟩ rfl (C_X2_stayCost _ mem ) ?_
      refine tr_iadd hC dX8_step_55 ?_
      refine tr_min hC dX8_step_56 mm_X8_28 ⟨Nat.le_of_ble_eq_true rfl, Nat.le_of_ble_eq_true rfl⟩ ?_
      refine tr_istore (loc2 := [some (.inr 100), some (.inr 1), some (.inr 10), some (.inl v3), some (.inl v4), some (.inl v5), some (.inl v6), some (.inl (mem 103 (Int32.toNatClampNeg (v6 - 1)))), some (.inl (imin (mem 103 (Int32.toNatClampNeg (v6 - 1))) ((mem 103 v6.toNatClampNeg) + (mem 1 3))))]) hC dX8_step_59 (by decide) rfl ?_
      refine tr_aload_n hC dX8_step_61 rfl rfl ?_
      refine tr_getr hC dX8_step_62 gf_X8_18 sh_100 rfl ?_
      refine tr_iload hC dX8_step_65 rfl ?_
      refine tr_ldc hC dX8_step_67 lc_X8_21 ?_
      refine tr_iload hC dX8_step_69 rfl ?_
      refine tr_aload_n hC dX8_step_71 rfl rfl ?_
      refine tr_aload_n hC dX8_step_72 rfl rfl ?_
      refine tr_iload_n hC dX8_step_73 rfl rfl ?_
      refine tr_iload hC dX8_step_74 rfl ?_
      refine tr_iload hC dX8_step_76 rfl ?_
      obtain ⟨g3, h⟩ := h
      refine tr_xVi (As := [.inl v3, .inl v4, .inl v6]) (fr2 := 0) (lo2 := 0) hC dX8_step_78 mc_X8_53 mv_X5_soundOf sh_10 rfl ⟨Nat.le_of_ble_eq_true rfl, Nat.le_of_ble_eq_true rfl, Nat.le_of_ble_eq_true rfl⟩ rfl (C_X5_soundOf _ mem v3 v4 v6 g3) ?_
      refine tr_iload hC dX8_step_81 rfl ?_
      obtain ⟨g4, h⟩ := h
      refine tr_xVi (As := [.inl (mem (12 + (Int32.toNatClampNeg ((v3 * 2) + v4))) v6.toNatClampNeg), .inl v5]) (fr2 := 0) (lo2 := 0) hC dX8_step_83 mc_X8_57 mv_X2_costAt sh_1 rfl ⟨Nat.le_of_ble_eq_true rfl, Nat.le_of_ble_eq_true rfl, Nat.le_of_ble_eq_true rfl⟩ rfl (C_X2_costAt _ mem (mem (12 + (Int32.toNatClampNeg ((v3 * 2) + v4))) v6.toNatClampNeg) v5 g4) ?_
      refine tr_iadd hC dX8_step_86 ?_
      refine tr_min hC dX8_step_87 mm_X8_28 ⟨Nat.le_of_ble_eq_true rfl, Nat.le_of_ble_eq_true rfl⟩ ?_
      refine tr_iast hC dX8_step_90 sh_103 g2 ?_
      refine tr_iinc (v := v6 + (-1)) (loc2 := [some (.inr 100), some (.inr 1), some (.inr 10), some (.inl v3), some (.inl v4), some (.inl v5), some (.inl (v6 + (-1))), some (.inl (mem 103 (Int32.toNatClampNeg (v6 - 1)))), some (.inl (imin (mem 103 (Int32.toNatClampNeg (v6 - 1))) ((mem 103 v6.toNatClampNeg) + (mem 1 3))))]) hC dX8_step_91 rfl rfl (by decide) rfl ?_
      refine tr_goto hC dX8_step_94 (tgt := 11) rfl ?_
      exact tr_weak (tl_s (tl_s (tl_s (tl_s (tl_s (tl_s (tl_s (tl_n (tl_n (tl_nil _)))))))))) h
    · replace h := h.1 c18
      refine tr_aload_n hC dX8_step_21 rfl rfl ?_
      refine tr_getr hC dX8_step_22 gf_X8_9 sh_100 rfl ?_
      refine tr_iload hC dX8_step_25 rfl ?_
      obtain ⟨g5, h⟩ := h
      refine tr_al (v := mem 101 v5.toNatClampNeg) hC dX8_step_27 sh_101 g5 rfl ?_
      refine tr_goto hC dX8_step_28 (tgt := 40) rfl ?_
      refine tr_istore (loc2 := [some (.inr 100), some (.inr 1), some (.inr 10), some (.inl v3), some (.inl v4), some (.inl v5), some (.inl v6), some (.inl (mem 101 v5.toNatClampNeg)), none]) hC dX8_step_40 (by decide) rfl ?_
      refine tr_iload hC dX8_step_42 rfl ?_
      refine tr_aload_n hC dX8_step_44 rfl rfl ?_
      refine tr_getr hC dX8_step_45 gf_X8_18 sh_100 rfl ?_
      refine tr_iload hC dX8_step_48 rfl ?_
      obtain ⟨g6, h⟩ := h
      refine tr_al (v := mem 103 v6.toNatClampNeg) hC dX8_step_50 sh_103 g6 rfl ?_
      refine tr_aload_n hC dX8_step_51 rfl rfl ?_
      refine tr_xVi (As := []) (fr2 := 0) (lo2 := 0) hC dX8_step_52 mc_X8_47 mv_X2_stayCost sh_1 rfl ⟨Nat.le_of_ble_eq_true rfl, Nat.le_of_ble_eq_true rfl, Nat.le_of_ble_eq_true rfl⟩ rfl (C_X2_stayCost _ mem ) ?_
      refine tr_iadd hC dX8_step_55 ?_
      refine tr_min hC dX8_step_56 mm_X8_28 ⟨Nat.le_of_ble_eq_true rfl, Nat.le_of_ble_eq_true rfl⟩ ?_
      refine tr_istore (loc2 := [some (.inr 100), some (.inr 1), some (.inr 10), some (.inl v3), some (.inl v4), some (.inl v5), some (.inl v6), some (.inl (mem 101 v5.toNatClampNeg)), some (.inl (imin (mem 101 v5.toNatClampNeg) ((mem 103 v6.toNatClampNeg) + (mem 1 3))))]) hC dX8_step_59 (by decide) rfl ?_
      refine tr_aload_n hC dX8_step_61 rfl rfl ?_
      refine tr_getr hC dX8_step_62 gf_X8_18 sh_100 rfl ?_
      refine tr_iload hC dX8_step_65 rfl ?_
      refine tr_ldc hC dX8_step_67 lc_X8_21 ?_
      refine tr_iload hC dX8_step_69 rfl ?_
      refine tr_aload_n hC dX8_step_71 rfl rfl ?_
      refine tr_aload_n hC dX8_step_72 rfl rfl ?_
      refine tr_iload_n hC dX8_step_73 rfl rfl ?_
      refine tr_iload hC dX8_step_74 rfl ?_
      refine tr_iload hC dX8_step_76 rfl ?_
      obtain ⟨g7, h⟩ := h
      refine tr_xVi (As := [.inl v3, .inl v4, .inl v6]) (fr2 := 0) (lo2 := 0) hC dX8_step_78 mc_X8_53 mv_X5_soundOf sh_10 rfl ⟨Nat.le_of_ble_eq_true rfl, Nat.le_of_ble_eq_true rfl, Nat.le_of_ble_eq_true rfl⟩ rfl (C_X5_soundOf _ mem v3 v4 v6 g7) ?_
      refine tr_iload hC dX8_step_81 rfl ?_
      obtain ⟨g8, h⟩ := h
      refine tr_xVi (As := [.inl (mem (12 + (Int32.toNatClampNeg ((v3 * 2) + v4))) v6.toNatClampNeg), .inl v5]) (fr2 := 0) (lo2 := 0) hC dX8_step_83 mc_X8_57 mv_X2_costAt sh_1 rfl ⟨Nat.le_of_ble_eq_true rfl, Nat.le_of_ble_eq_true rfl, Nat.le_of_ble_eq_true rfl⟩ rfl (C_X2_costAt _ mem (mem (12 + (Int32.toNatClampNeg ((v3 * 2) + v4))) v6.toNatClampNeg) v5 g8) ?_
      refine tr_iadd hC dX8_step_86 ?_
      refine tr_min hC dX8_step_87 mm_X8_28 ⟨Nat.le_of_ble_eq_true rfl, Nat.le_of_ble_eq_true rfl⟩ ?_
      refine tr_iast hC dX8_step_90 sh_103 g6 ?_
      refine tr_iinc (v := v6 + (-1)) (loc2 := [some (.inr 100), some (.inr 1), some (.inr 10), some (.inl v3), some (.inl v4), some (.inl v5), some (.inl (v6 + (-1))), some (.inl (mem 101 v5.toNatClampNeg)), some (.inl (imin (mem 101 v5.toNatClampNeg) ((mem 103 v6.toNatClampNeg) + (mem 1 3))))]) hC dX8_step_91 rfl rfl (by decide) rfl ?_
      refine tr_goto hC dX8_step_94 (tgt := 11) rfl ?_
      exact tr_weak (tl_s (tl_s (tl_s (tl_s (tl_s (tl_s (tl_s (tl_n (tl_n (tl_nil _)))))))))) h
set_option maxRecDepth 100000 in
theorem K_X8_run_100_1_10_0 {κ : TCx} {post0 : Option TV → TMem → Prop} (hC : TC κ RX8 cX8_run 9 2 51) (hT : TR κ none post0) (mem : TMem) (p1 : Int32) (p2 : Int32) (p3 : Int32) (h : ∃ post : TMem → Prop, TMv κ.1.2.1 i_J7_fill_53178 0 0 [.inr 102, .inl 1000000] mem post ∧ ∀ (m6 : TMem), post m6 → (WT κ 12 [some (.inr 100), some (.inr 1), some (.inr 10), some (.inl p1), some (.inl p2), some (.inl p3), some (.inl 0), none, none] [] m6)) : WT κ 0 [some (.inr 100), some (.inr 1), some (.inr 10), some (.inl p1), some (.inl p2), some (.inl p3), none, none, none] [] mem := by
  refine tr_aload_n hC dX8_run_0 rfl rfl ?_
  refine tr_getr hC dX8_run_1 gf_X8_15 sh_100 rfl ?_
  refine tr_ldc hC dX8_run_4 lc_X8_21 ?_
  obtain ⟨post6, hM6, h⟩ := h
  refine tr_cSv (As := [.inr 102, .inl 1000000]) (fr2 := 0) (lo2 := 0) hC dX8_run_6 mc_X8_22 mst_J7_fill_53178 ⟨Nat.le_of_ble_eq_true rfl, Nat.le_of_ble_eq_true rfl, Nat.le_of_ble_eq_true rfl⟩ rfl hM6 (fun m6 hp6 => ?_)
  replace h := h m6 hp6
  refine tr_iconst (v := 0) hC dX8_run_9 (by decide) ?_
  refine tr_istore (loc2 := [some (.inr 100), some (.inr 1), some (.inr 10), some (.inl p1), some (.inl p2), some (.inl p3), some (.inl 0), none, none]) hC dX8_run_10 (by decide) rfl ?_
  exact h
set_option maxRecDepth 100000 in
theorem K_X8_run_100_1_10_12 {κ : TCx} {post0 : Option TV → TMem → Prop} (hC : TC κ RX8 cX8_run 9 2 51) (hT : TR κ none post0) (mem : TMem) (v3 : Int32) (v4 : Int32) (v5 : Int32) (v6 : Int32) (h : G_X5_waysOf v3 ∧ (((mem 29 v3.toNatClampNeg) ≤ v6 → post0 none mem) ∧ (¬ ((mem 29 v3.toNatClampNeg) ≤ v6) → (G_X5_lengthOf v3 v6 ∧ (∃ post : TMem → Prop, TMv κ.1.2.1 i_J7_fill_53178 0 0 [.inr 103, .inl 1000000] mem post ∧ ∀ (m39 : TMem), post m39 → (WT κ 46 [some (.inr 100), some (.inr 1), some (.inr 10), some (.inl v3), some (.inl v4), some (.inl v5), some (.inl v6), some (.inl ((mem 28 (Int32.toNatClampNeg ((v3 * 2) + v6))) - 1)), some (.inl v4)] [] m39)))))) : WT κ 12 [some (.inr 100), some (.inr 1), some (.inr 10), some (.inl v3), some (.inl v4), some (.inl v5), some (.inl v6), none, none] [] mem := by
  refine tr_iload hC dX8_run_12 rfl ?_
  refine tr_aload_n hC dX8_run_14 rfl rfl ?_
  refine tr_iload_n hC dX8_run_15 rfl rfl ?_
  obtain ⟨g1, h⟩ := h
  refine tr_xVi (As := [.inl v3]) (fr2 := 0) (lo2 := 0) hC dX8_run_16 mc_X8_34 mv_X5_waysOf sh_10 rfl ⟨Nat.le_of_ble_eq_true rfl, Nat.le_of_ble_eq_true rfl, Nat.le_of_ble_eq_true rfl⟩ rfl (C_X5_waysOf _ mem v3 g1) ?_
  refine tr_icmp_ge hC dX8_run_19 (tgt := 104) rfl (fun c19 => ?_) (fun c19 => ?_)
  · replace h := h.1 c19
    exact tr_vret hC hT dX8_run_104 h
  · replace h := h.2 c19
    refine tr_aload_n hC dX8_run_22 rfl rfl ?_
    refine tr_iload_n hC dX8_run_23 rfl rfl ?_
    refine tr_iload hC dX8_run_24 rfl ?_
    obtain ⟨g2, h⟩ := h
    refine tr_xVi (As := [.inl v3, .inl v6]) (fr2 := 0) (lo2 := 0) hC dX8_run_26 mc_X8_40 mv_X5_lengthOf sh_10 rfl ⟨Nat.le_of_ble_eq_true rfl, Nat.le_of_ble_eq_true rfl, Nat.le_of_ble_eq_true rfl⟩ rfl (C_X5_lengthOf _ mem v3 v6 g2) ?_
    refine tr_iconst (v := 1) hC dX8_run_29 (by decide) ?_
    refine tr_isub hC dX8_run_30 ?_
    refine tr_istore (loc2 := [some (.inr 100), some (.inr 1), some (.inr 10), some (.inl v3), some (.inl v4), some (.inl v5), some (.inl v6), some (.inl ((mem 28 (Int32.toNatClampNeg ((v3 * 2) + v6))) - 1)), none]) hC dX8_run_31 (by decide) rfl ?_
    refine tr_aload_n hC dX8_run_33 rfl rfl ?_
    refine tr_getr hC dX8_run_34 gf_X8_18 sh_100 rfl ?_
    refine tr_ldc hC dX8_run_37 lc_X8_21 ?_
    obtain ⟨post39, hM39, h⟩ := h
    refine tr_cSv (As := [.inr 103, .inl 1000000]) (fr2 := 0) (lo2 := 0) hC dX8_run_39 mc_X8_22 mst_J7_fill_53178 ⟨Nat.le_of_ble_eq_true rfl, Nat.le_of_ble_eq_true rfl, Nat.le_of_ble_eq_true rfl⟩ rfl hM39 (fun m39 hp39 => ?_)
    replace h := h m39 hp39
    refine tr_iload hC dX8_run_42 rfl ?_
    refine tr_istore (loc2 := [some (.inr 100), some (.inr 1), some (.inr 10), some (.inl v3), some (.inl v4), some (.inl v5), some (.inl v6), some (.inl ((mem 28 (Int32.toNatClampNeg ((v3 * 2) + v6))) - 1)), some (.inl v4)]) hC dX8_run_44 (by decide) rfl ?_
    exact h
set_option maxRecDepth 100000 in
theorem K_X8_run_100_1_10_46 {κ : TCx} {post0 : Option TV → TMem → Prop} (hC : TC κ RX8 cX8_run 9 2 51) (hT : TR κ none post0) (mem : TMem) (v3 : Int32) (v4 : Int32) (v5 : Int32) (v6 : Int32) (v7 : Int32) (v8 : Int32) (h : (v5 ≤ v8 → (WT κ 12 [some (.inr 100), some (.inr 1), some (.inr 10), some (.inl v3), some (.inl v4), some (.inl v5), some (.inl (v6 + 1)), none, none] [] mem)) ∧ (¬ (v5 ≤ v8) → (∃ post : TMem → Prop, TMv κ.1.2.1 i_X8_step 1 23 [.inr 100, .inr 1, .inr 10, .inl v3, .inl v6, .inl v8] mem post ∧ ∀ (m61 : TMem), post m61 → ((vp_in (v8 + 1) 41) ∧ (vp_in v7 4 ∧ (WT κ 46 [some (.inr 100), some (.inr 1), some (.inr 10), some (.inl v3), some (.inl v4), some (.inl v5), some (.inl v6), some (.inl v7), some (.inl (v8 + 1))] [] (mset m61 102 (Int32.toNatClampNeg (v8 + 1)) (imin (m61 102 (Int32.toNatClampNeg (v8 + 1))) (m61 103 v7.toNatClampNeg))))))))) : WT κ 46 [some (.inr 100), some (.inr 1), some (.inr 10), some (.inl v3), some (.inl v4), some (.inl v5), some (.inl v6), some (.inl v7), some (.inl v8)] [] mem := by
  refine tr_iload hC dX8_run_46 rfl ?_
  refine tr_iload hC dX8_run_48 rfl ?_
  refine tr_icmp_ge hC dX8_run_50 (tgt := 98) rfl (fun c50 => ?_) (fun c50 => ?_)
  · replace h := h.1 c50
    refine tr_iinc (v := v6 + 1) (loc2 := [some (.inr 100), some (.inr 1), some (.inr 10), some (.inl v3), some (.inl v4), some (.inl v5), some (.inl (v6 + 1)), some (.inl v7), some (.inl v8)]) hC dX8_run_98 rfl rfl (by decide) rfl ?_
    refine tr_goto hC dX8_run_101 (tgt := 12) rfl ?_
    exact tr_weak (tl_s (tl_s (tl_s (tl_s (tl_s (tl_s (tl_s (tl_n (tl_n (tl_nil _)))))))))) h
  · replace h := h.2 c50
    refine tr_aload_n hC dX8_run_53 rfl rfl ?_
    refine tr_aload_n hC dX8_run_54 rfl rfl ?_
    refine tr_aload_n hC dX8_run_55 rfl rfl ?_
    refine tr_iload_n hC dX8_run_56 rfl rfl ?_
    refine tr_iload hC dX8_run_57 rfl ?_
    refine tr_iload hC dX8_run_59 rfl ?_
    obtain ⟨post61, hM61, h⟩ := h
    refine tr_cVv (As := [.inr 1, .inr 10, .inl v3, .inl v6, .inl v8]) (fr2 := 1) (lo2 := 23) hC dX8_run_61 mc_X8_43 mv_X8_step sh_100 rfl ⟨Nat.le_of_ble_eq_true rfl, Nat.le_of_ble_eq_true rfl, Nat.le_of_ble_eq_true rfl⟩ rfl hM61 (fun m61 hp61 => ?_)
    replace h := h m61 hp61
    refine tr_aload_n hC dX8_run_64 rfl rfl ?_
    refine tr_getr hC dX8_run_65 gf_X8_15 sh_100 rfl ?_
    refine tr_iload hC dX8_run_68 rfl ?_
    refine tr_iconst (v := 1) hC dX8_run_70 (by decide) ?_
    refine tr_iadd hC dX8_run_71 ?_
    refine tr_aload_n hC dX8_run_72 rfl rfl ?_
    refine tr_getr hC dX8_run_73 gf_X8_15 sh_100 rfl ?_
    refine tr_iload hC dX8_run_76 rfl ?_
    refine tr_iconst (v := 1) hC dX8_run_78 (by decide) ?_
    refine tr_iadd hC dX8_run_79 ?_
    obtain ⟨g1, h⟩ := h
    refine tr_al (v := m61 102 (Int32.toNatClampNeg (v8 + 1))) hC dX8_run_80 sh_102 g1 rfl ?_
    refine tr_aload_n hC dX8_run_81 rfl rfl ?_
    refine tr_getr hC dX8_run_82 gf_X8_18 sh_100 rfl ?_
    refine tr_iload hC dX8_run_85 rfl ?_
    obtain ⟨g2, h⟩ := h
    refine tr_al (v := m61 103 v7.toNatClampNeg) hC dX8_run_87 sh_103 g2 rfl ?_
    refine tr_min hC dX8_run_88 mm_X8_28 ⟨Nat.le_of_ble_eq_true rfl, Nat.le_of_ble_eq_true rfl⟩ ?_
    refine tr_iast hC dX8_run_91 sh_102 g1 ?_
    refine tr_iinc (v := v8 + 1) (loc2 := [some (.inr 100), some (.inr 1), some (.inr 10), some (.inl v3), some (.inl v4), some (.inl v5), some (.inl v6), some (.inl v7), some (.inl (v8 + 1))]) hC dX8_run_92 rfl rfl (by decide) rfl ?_
    refine tr_goto hC dX8_run_95 (tgt := 46) rfl ?_
    exact h
set_option maxRecDepth 100000 in
theorem K_X6_append_0 {κ : TCx} {post0 : Option TV → TMem → Prop} (hC : TC κ RX6 cX6_append 7 3 79) (hT : TR κ none post0) (mem : TMem) (p1 : Int32) (p2 : Int32) (h : WT κ 9 [some (.inr 40), some (.inr 1), some (.inr 10), some (.inl p1), some (.inl p2), some (.inl (mem 1 2)), some (.inl 0)] [] mem) : WT κ 0 [some (.inr 40), some (.inr 1), some (.inr 10), some (.inl p1), some (.inl p2), none, none] [] mem := by
  refine tr_aload_n hC dX6_append_0 rfl rfl ?_
  refine tr_xVi (As := []) (fr2 := 0) (lo2 := 0) hC dX6_append_1 mc_X6_55 mv_X2_frames sh_1 rfl ⟨Nat.le_of_ble_eq_true rfl, Nat.le_of_ble_eq_true rfl, Nat.le_of_ble_eq_true rfl⟩ rfl (C_X2_frames _ mem ) ?_
  refine tr_istore (loc2 := [some (.inr 40), some (.inr 1), some (.inr 10), some (.inl p1), some (.inl p2), some (.inl (mem 1 2)), none]) hC dX6_append_4 (by decide) rfl ?_
  refine tr_iconst (v := 0) hC dX6_append_6 (by decide) ?_
  refine tr_istore (loc2 := [some (.inr 40), some (.inr 1), some (.inr 10), some (.inl p1), some (.inl p2), some (.inl (mem 1 2)), some (.inl 0)]) hC dX6_append_7 (by decide) rfl ?_
  exact h
set_option maxRecDepth 100000 in
theorem K_X6_append_9 {κ : TCx} {post0 : Option TV → TMem → Prop} (hC : TC κ RX6 cX6_append 7 3 79) (hT : TR κ none post0) (mem : TMem) (v3 : Int32) (v4 : Int32) (v5 : Int32) (v6 : Int32) (h : (v5 < v6 → (∃ post : TMem → Prop, TMv κ.1.2.1 i_X8_run 2 51 [.inr 100, .inr 1, .inr 10, .inl v4, .inl 0, .inl v5] mem post ∧ ∀ (m57 : TMem), post m57 → (WT κ 63 [some (.inr 40), none, none, none, some (.inl v4), some (.inl v5), some (.inl 0)] [] m57))) ∧ (¬ (v5 < v6) → (vp_in v6 41 ∧ (G_X5_joint v3 v4 ∧ ((G_X8_start_100 v6 ((mem 99 v6.toNatClampNeg) + (F_X5_joint mem v3 v4))) ∧ (WT κ 9 [some (.inr 40), some (.inr 1), some (.inr 10), some (.inl v3), some (.inl v4), some (.inl v5), some (.inl (v6 + 1))] [] (mset mem 101 v6.toNatClampNeg (imin 1000000 ((mem 99 v6.toNatClampNeg) + (F_X5_joint mem v3 v4)))))))))) : WT κ 9 [some (.inr 40), some (.inr 1), some (.inr 10), some (.inl v3), some (.inl v4), some (.inl v5), some (.inl v6)] [] mem := by
  refine tr_iload hC dX6_append_9 rfl ?_
  refine tr_iload hC dX6_append_11 rfl ?_
  refine tr_icmp_gt hC dX6_append_13 (tgt := 46) rfl (fun c13 => ?_) (fun c13 => ?_)
  · replace h := h.1 c13
    refine tr_aload_n hC dX6_append_46 rfl rfl ?_
    refine tr_getr hC dX6_append_47 gf_X6_26 sh_40 rfl ?_
    refine tr_aload_n hC dX6_append_50 rfl rfl ?_
    refine tr_aload_n hC dX6_append_51 rfl rfl ?_
    refine tr_iload hC dX6_append_52 rfl ?_
    refine tr_iconst (v := 0) hC dX6_append_54 (by decide) ?_
    refine tr_iload hC dX6_append_55 rfl ?_
    obtain ⟨post57, hM57, h⟩ := h
    refine tr_cVv (As := [.inr 1, .inr 10, .inl v4, .inl 0, .inl v5]) (fr2 := 2) (lo2 := 51) hC dX6_append_57 mc_X6_124 mv_X8_run sh_100 rfl ⟨Nat.le_of_ble_eq_true rfl, Nat.le_of_ble_eq_true rfl, Nat.le_of_ble_eq_true rfl⟩ rfl hM57 (fun m57 hp57 => ?_)
    replace h := h m57 hp57
    refine tr_iconst (v := 0) hC dX6_append_60 (by decide) ?_
    refine tr_istore (loc2 := [some (.inr 40), some (.inr 1), some (.inr 10), some (.inl v3), some (.inl v4), some (.inl v5), some (.inl 0)]) hC dX6_append_61 (by decide) rfl ?_
    exact tr_weak (tl_s (tl_n (tl_n (tl_n (tl_s (tl_s (tl_s (tl_nil _)))))))) h
  · replace h := h.2 c13
    refine tr_aload_n hC dX6_append_16 rfl rfl ?_
    refine tr_getr hC dX6_append_17 gf_X6_26 sh_40 rfl ?_
    refine tr_iload hC dX6_append_20 rfl ?_
    refine tr_aload_n hC dX6_append_22 rfl rfl ?_
    refine tr_getr hC dX6_append_23 gf_X6_19 sh_40 rfl ?_
    refine tr_iload hC dX6_append_26 rfl ?_
    obtain ⟨g1, h⟩ := h
    refine tr_al (v := mem 99 v6.toNatClampNeg) hC dX6_append_28 sh_99 g1 rfl ?_
    refine tr_aload_n hC dX6_append_29 rfl rfl ?_
    refine tr_iload_n hC dX6_append_30 rfl rfl ?_
    refine tr_iload hC dX6_append_31 rfl ?_
    obtain ⟨g2, h⟩ := h
    refine tr_xVi (As := [.inl v3, .inl v4]) (fr2 := 1) (lo2 := 22) hC dX6_append_33 mc_X6_77 mv_X5_joint sh_10 rfl ⟨Nat.le_of_ble_eq_true rfl, Nat.le_of_ble_eq_true rfl, Nat.le_of_ble_eq_true rfl⟩ rfl (C_X5_joint _ mem v3 v4 g2) ?_
    refine tr_iadd hC dX6_append_36 ?_
    obtain ⟨g3, h⟩ := h
    refine tr_xVv (As := [.inl v6, .inl ((mem 99 v6.toNatClampNeg) + (F_X5_joint mem v3 v4))]) (fr2 := 1) (lo2 := 21) hC dX6_append_37 mc_X6_120 mv_X8_start sh_100 rfl ⟨Nat.le_of_ble_eq_true rfl, Nat.le_of_ble_eq_true rfl, Nat.le_of_ble_eq_true rfl⟩ rfl (C_X8_start_100 _ mem v6 ((mem 99 v6.toNatClampNeg) + (F_X5_joint mem v3 v4)) g3) ?_
    refine tr_iinc (v := v6 + 1) (loc2 := [some (.inr 40), some (.inr 1), some (.inr 10), some (.inl v3), some (.inl v4), some (.inl v5), some (.inl (v6 + 1))]) hC dX6_append_40 rfl rfl (by decide) rfl ?_
    refine tr_goto hC dX6_append_43 (tgt := 9) rfl ?_
    exact h
set_option maxRecDepth 100000 in
theorem K_X6_append_63 {κ : TCx} {post0 : Option TV → TMem → Prop} (hC : TC κ RX6 cX6_append 7 3 79) (hT : TR κ none post0) (mem : TMem) (v4 : Int32) (v5 : Int32) (v6 : Int32) (h : (v5 < v6 → (G_X7_add_104 mem v4 ∧ (post0 none (M_X7_add_104 mem v4)))) ∧ (¬ (v5 < v6) → (G_X8_endAt_100 v6 ∧ (vp_in v6 41 ∧ (WT κ 63 [some (.inr 40), none, none, none, some (.inl v4), some (.inl v5), some (.inl (v6 + 1))] [] (mset mem 99 v6.toNatClampNeg (mem 102 v6.toNatClampNeg))))))) : WT κ 63 [some (.inr 40), none, none, none, some (.inl v4), some (.inl v5), some (.inl v6)] [] mem := by
  refine tr_iload hC dX6_append_63 rfl ?_
  refine tr_iload hC dX6_append_65 rfl ?_
  refine tr_icmp_gt hC dX6_append_67 (tgt := 92) rfl (fun c67 => ?_) (fun c67 => ?_)
  · replace h := h.1 c67
    refine tr_aload_n hC dX6_append_92 rfl rfl ?_
    refine tr_getr hC dX6_append_93 gf_X6_35 sh_40 rfl ?_
    refine tr_iload hC dX6_append_96 rfl ?_
    obtain ⟨g1, h⟩ := h
    refine tr_xVv (As := [.inl v4]) (fr2 := 0) (lo2 := 0) hC dX6_append_98 mc_X6_131 mv_X7_add sh_104 rfl ⟨Nat.le_of_ble_eq_true rfl, Nat.le_of_ble_eq_true rfl, Nat.le_of_ble_eq_true rfl⟩ rfl (C_X7_add_104 _ mem v4 g1) ?_
    exact tr_vret hC hT dX6_append_101 h
  · replace h := h.2 c67
    refine tr_aload_n hC dX6_append_70 rfl rfl ?_
    refine tr_getr hC dX6_append_71 gf_X6_19 sh_40 rfl ?_
    refine tr_iload hC dX6_append_74 rfl ?_
    refine tr_aload_n hC dX6_append_76 rfl rfl ?_
    refine tr_getr hC dX6_append_77 gf_X6_26 sh_40 rfl ?_
    refine tr_iload hC dX6_append_80 rfl ?_
    obtain ⟨g2, h⟩ := h
    refine tr_xVi (As := [.inl v6]) (fr2 := 0) (lo2 := 0) hC dX6_append_82 mc_X6_128 mv_X8_endAt sh_100 rfl ⟨Nat.le_of_ble_eq_true rfl, Nat.le_of_ble_eq_true rfl, Nat.le_of_ble_eq_true rfl⟩ rfl (C_X8_endAt_100 _ mem v6 g2) ?_
    obtain ⟨g3, h⟩ := h
    refine tr_iast hC dX6_append_85 sh_99 g3 ?_
    refine tr_iinc (v := v6 + 1) (loc2 := [some (.inr 40), none, none, none, some (.inl v4), some (.inl v5), some (.inl (v6 + 1))]) hC dX6_append_86 rfl rfl (by decide) rfl ?_
    refine tr_goto hC dX6_append_89 (tgt := 63) rfl ?_
    exact h
set_option maxRecDepth 100000 in
theorem K_X6_findRow_0 {κ : TCx} {post0 : Option TV → TMem → Prop} (hC : TC κ RX6 cX6_findRow 7 4 105) (hT : TR κ none post0) (mem : TMem) (h : ∃ post : TMem → Prop, TMv κ.1.2.1 i_J7_fill_53178 0 0 [.inr 99, .inl 1000000] mem post ∧ ∀ (m14 : TMem), post m14 → (WT κ 27 [some (.inr 40), some (.inr 1), some (.inr 10), some (.inl (mem 1 2)), some (.inl (-1)), some (.inl 0), none] [] (mset m14 99 0 0))) : WT κ 0 [some (.inr 40), some (.inr 1), some (.inr 10), none, none, none, none] [] mem := by
  refine tr_aload_n hC dX6_findRow_0 rfl rfl ?_
  refine tr_xVi (As := []) (fr2 := 0) (lo2 := 0) hC dX6_findRow_1 mc_X6_55 mv_X2_frames sh_1 rfl ⟨Nat.le_of_ble_eq_true rfl, Nat.le_of_ble_eq_true rfl, Nat.le_of_ble_eq_true rfl⟩ rfl (C_X2_frames _ mem ) ?_
  refine tr_istore_n (loc2 := [some (.inr 40), some (.inr 1), some (.inr 10), some (.inl (mem 1 2)), none, none, none]) hC dX6_findRow_4 rfl (by decide) rfl ?_
  refine tr_iconst (v := (-1)) hC dX6_findRow_5 (by decide) ?_
  refine tr_istore (loc2 := [some (.inr 40), some (.inr 1), some (.inr 10), some (.inl (mem 1 2)), some (.inl (-1)), none, none]) hC dX6_findRow_6 (by decide) rfl ?_
  refine tr_aload_n hC dX6_findRow_8 rfl rfl ?_
  refine tr_getr hC dX6_findRow_9 gf_X6_19 sh_40 rfl ?_
  refine tr_ldc hC dX6_findRow_12 lc_X6_39 ?_
  obtain ⟨post14, hM14, h⟩ := h
  refine tr_cSv (As := [.inr 99, .inl 1000000]) (fr2 := 0) (lo2 := 0) hC dX6_findRow_14 mc_X6_86 mst_J7_fill_53178 ⟨Nat.le_of_ble_eq_true rfl, Nat.le_of_ble_eq_true rfl, Nat.le_of_ble_eq_true rfl⟩ rfl hM14 (fun m14 hp14 => ?_)
  replace h := h m14 hp14
  refine tr_aload_n hC dX6_findRow_17 rfl rfl ?_
  refine tr_getr hC dX6_findRow_18 gf_X6_19 sh_40 rfl ?_
  refine tr_iconst (v := 0) hC dX6_findRow_21 (by decide) ?_
  refine tr_iconst (v := 0) hC dX6_findRow_22 (by decide) ?_
  refine tr_iast hC dX6_findRow_23 sh_99 (by unfold vp_in; decide) ?_
  refine tr_iconst (v := 0) hC dX6_findRow_24 (by decide) ?_
  refine tr_istore (loc2 := [some (.inr 40), some (.inr 1), some (.inr 10), some (.inl (mem 1 2)), some (.inl (-1)), some (.inl 0), none]) hC dX6_findRow_25 (by decide) rfl ?_
  exact h
set_option maxRecDepth 100000 in
theorem K_X6_findRow_27 {κ : TCx} {post0 : Option TV → TMem → Prop} (hC : TC κ RX6 cX6_findRow 7 4 105) (hT : TR κ none post0) (mem : TMem) (v3 : Int32) (v4 : Int32) (v5 : Int32) (h : (v3 ≤ v5 → post0 none mem) ∧ (¬ (v3 ≤ v5) → (vp_in v3 41 ∧ ((G_X5_joint v4 (-1)) ∧ ((((mem 99 v3.toNatClampNeg) + (F_X5_joint mem v4 (-1))) = (mem 40 5) → post0 none mem) ∧ (¬ (((mem 99 v3.toNatClampNeg) + (F_X5_joint mem v4 (-1))) = (mem 40 5)) → (∃ post : Int32 → TMem → Prop, TMi κ.1.2.1 i_X6_firstThatLeadsOn 2 45 [.inr 40, .inr 10, .inl v4, .inl v3] mem post ∧ ∀ (x60 : Int32) (m60 : TMem), post x60 m60 → ((x60 = (-1) → post0 none m60) ∧ (¬ (x60 = (-1)) → (∃ post : TMem → Prop, TMv κ.1.2.1 i_X6_append 3 79 [.inr 40, .inr 1, .inr 10, .inl v4, .inl x60] m60 post ∧ ∀ (m79 : TMem), post m79 → (WT κ 27 [some (.inr 40), some (.inr 1), some (.inr 10), some (.inl v3), some (.inl x60), some (.inl (v5 + 1)), none] [] m79))))))))))) : WT κ 27 [some (.inr 40), some (.inr 1), some (.inr 10), some (.inl v3), some (.inl v4), some (.inl v5), none] [] mem := by
  refine tr_iload hC dX6_findRow_27 rfl ?_
  refine tr_iload_n hC dX6_findRow_29 rfl rfl ?_
  refine tr_icmp_ge hC dX6_findRow_30 (tgt := 92) rfl (fun c30 => ?_) (fun c30 => ?_)
  · replace h := h.1 c30
    exact tr_vret hC hT dX6_findRow_92 h
  · replace h := h.2 c30
    refine tr_aload_n hC dX6_findRow_33 rfl rfl ?_
    refine tr_getr hC dX6_findRow_34 gf_X6_19 sh_40 rfl ?_
    refine tr_iload_n hC dX6_findRow_37 rfl rfl ?_
    obtain ⟨g1, h⟩ := h
    refine tr_al (v := mem 99 v3.toNatClampNeg) hC dX6_findRow_38 sh_99 g1 rfl ?_
    refine tr_aload_n hC dX6_findRow_39 rfl rfl ?_
    refine tr_iload hC dX6_findRow_40 rfl ?_
    refine tr_iconst (v := (-1)) hC dX6_findRow_42 (by decide) ?_
    obtain ⟨g2, h⟩ := h
    refine tr_xVi (As := [.inl v4, .inl (-1)]) (fr2 := 1) (lo2 := 22) hC dX6_findRow_43 mc_X6_77 mv_X5_joint sh_10 rfl ⟨Nat.le_of_ble_eq_true rfl, Nat.le_of_ble_eq_true rfl, Nat.le_of_ble_eq_true rfl⟩ rfl (C_X5_joint _ mem v4 (-1) g2) ?_
    refine tr_iadd hC dX6_findRow_46 ?_
    refine tr_aload_n hC dX6_findRow_47 rfl rfl ?_
    refine tr_gi (v := mem 40 5) hC dX6_findRow_48 gf_X6_40 sh_40 rfl rfl ?_
    refine tr_icmp_ne hC dX6_findRow_51 (tgt := 55) rfl (fun c51 => ?_) (fun c51 => ?_)
    · replace h := h.2 c51
      refine tr_aload_n hC dX6_findRow_55 rfl rfl ?_
      refine tr_aload_n hC dX6_findRow_56 rfl rfl ?_
      refine tr_iload hC dX6_findRow_57 rfl ?_
      refine tr_iload_n hC dX6_findRow_59 rfl rfl ?_
      obtain ⟨post60, hM60, h⟩ := h
      refine tr_cVi (As := [.inr 10, .inl v4, .inl v3]) (fr2 := 2) (lo2 := 45) hC dX6_findRow_60 mc_X6_112 mv_X6_firstThatLeadsOn sh_40 rfl ⟨Nat.le_of_ble_eq_true rfl, Nat.le_of_ble_eq_true rfl, Nat.le_of_ble_eq_true rfl⟩ rfl hM60 (fun x60 m60 hp60 => ?_)
      replace h := h x60 m60 hp60
      refine tr_istore (loc2 := [some (.inr 40), some (.inr 1), some (.inr 10), some (.inl v3), some (.inl v4), some (.inl v5), some (.inl x60)]) hC dX6_findRow_63 (by decide) rfl ?_
      refine tr_iload hC dX6_findRow_65 rfl ?_
      refine tr_iconst (v := (-1)) hC dX6_findRow_67 (by decide) ?_
      refine tr_icmp_ne hC dX6_findRow_68 (tgt := 72) rfl (fun c68 => ?_) (fun c68 => ?_)
      · replace h := h.2 c68
        refine tr_aload_n hC dX6_findRow_72 rfl rfl ?_
        refine tr_aload_n hC dX6_findRow_73 rfl rfl ?_
        refine tr_aload_n hC dX6_findRow_74 rfl rfl ?_
        refine tr_iload hC dX6_findRow_75 rfl ?_
        refine tr_iload hC dX6_findRow_77 rfl ?_
        obtain ⟨post79, hM79, h⟩ := h
        refine tr_cVv (As := [.inr 1, .inr 10, .inl v4, .inl x60]) (fr2 := 3) (lo2 := 79) hC dX6_findRow_79 mc_X6_116 mv_X6_append sh_40 rfl ⟨Nat.le_of_ble_eq_true rfl, Nat.le_of_ble_eq_true rfl, Nat.le_of_ble_eq_true rfl⟩ rfl hM79 (fun m79 hp79 => ?_)
        replace h := h m79 hp79
        refine tr_iload hC dX6_findRow_82 rfl ?_
        refine tr_istore (loc2 := [some (.inr 40), some (.inr 1), some (.inr 10), some (.inl v3), some (.inl x60), some (.inl v5), some (.inl x60)]) hC dX6_findRow_84 (by decide) rfl ?_
        refine tr_iinc (v := v5 + 1) (loc2 := [some (.inr 40), some (.inr 1), some (.inr 10), some (.inl v3), some (.inl x60), some (.inl (v5 + 1)), some (.inl x60)]) hC dX6_findRow_86 rfl rfl (by decide) rfl ?_
        refine tr_goto hC dX6_findRow_89 (tgt := 27) rfl ?_
        exact tr_weak (tl_s (tl_s (tl_s (tl_s (tl_s (tl_s (tl_n (tl_nil _)))))))) h
      · replace h := h.1 c68
        exact tr_vret hC hT dX6_findRow_71 h
    · replace h := h.1 c51
      exact tr_vret hC hT dX6_findRow_54 h
set_option maxRecDepth 100000 in
theorem K_X6_find_0 {κ : TCx} {post0 : Option TV → TMem → Prop} (hC : TC κ RX6 cX6_find 3 5 131) (hT : TR κ (some .boolean) post0) (mem : TMem) (h : ((mem 40 6) = 0 → (∃ post : TMem → Prop, TMv κ.1.2.1 i_X6_lookAhead 3 71 [.inr 40, .inr 1, .inr 10] mem post ∧ ∀ (m10 : TMem), post m10 → (((m10 1 2) ≤ 0 → post0 (some (.inl 0)) (mset (mset (mset m10 104 1 0) 40 5 1000000) 40 6 1)) ∧ (¬ ((m10 1 2) ≤ 0) → (∃ post : Int32 → TMem → Prop, TMi κ.1.2.1 i_X6_cheapestBehind 2 45 [.inr 40, .inr 10, .inl (-1), .inl 0, .inl (-1)] (mset m10 104 1 0) post ∧ ∀ (x33 : Int32) (m33 : TMem), post x33 m33 → ((1000000 ≤ x33 → post0 (some (.inl 0)) (mset (mset m33 40 5 x33) 40 6 1)) ∧ (¬ (1000000 ≤ x33) → (∃ post : TMem → Prop, TMv κ.1.2.1 i_X6_findRow 4 105 [.inr 40, .inr 1, .inr 10] (mset m33 40 5 x33) post ∧ ∀ (m56 : TMem), post m56 → ((1000000 ≤ (m56 40 5) → post0 (some (.inl 0)) (mset m56 40 6 1)) ∧ (¬ (1000000 ≤ (m56 40 5)) → post0 (some (.inl 1)) (mset m56 40 6 1))))))))))) ∧ (¬ ((mem 40 6) = 0) → ((1000000 ≤ (mem 40 5) → post0 (some (.inl 0)) mem) ∧ (¬ (1000000 ≤ (mem 40 5)) → post0 (some (.inl 1)) mem)))) : WT κ 0 [some (.inr 40), some (.inr 1), some (.inr 10)] [] mem := by
  refine tr_aload_n hC dX6_find_0 rfl rfl ?_
  refine tr_gi (v := mem 40 6) hC dX6_find_1 gf_X6_44 sh_40 rfl rfl ?_
  refine tr_if_ne hC dX6_find_4 (tgt := 64) rfl (fun c4 => ?_) (fun c4 => ?_)
  · replace h := h.2 c4
    refine tr_aload_n hC dX6_find_64 rfl rfl ?_
    refine tr_gi (v := mem 40 5) hC dX6_find_65 gf_X6_40 sh_40 rfl rfl ?_
    refine tr_ldc hC dX6_find_68 lc_X6_39 ?_
    refine tr_icmp_ge hC dX6_find_70 (tgt := 77) rfl (fun c70 => ?_) (fun c70 => ?_)
    · replace h := h.1 c70
      refine tr_iconst (v := 0) hC dX6_find_77 (by decide) ?_
      exact tr_zret hC hT dX6_find_78 (nar_b (by decide)) h
    · replace h := h.2 c70
      refine tr_iconst (v := 1) hC dX6_find_73 (by decide) ?_
      refine tr_goto hC dX6_find_74 (tgt := 78) rfl ?_
      exact tr_zret hC hT dX6_find_78 (nar_b (by decide)) h
  · replace h := h.1 c4
    refine tr_aload_n hC dX6_find_7 rfl rfl ?_
    refine tr_aload_n hC dX6_find_8 rfl rfl ?_
    refine tr_aload_n hC dX6_find_9 rfl rfl ?_
    obtain ⟨post10, hM10, h⟩ := h
    refine tr_cVv (As := [.inr 1, .inr 10]) (fr2 := 3) (lo2 := 71) hC dX6_find_10 mc_X6_48 mv_X6_lookAhead sh_40 rfl ⟨Nat.le_of_ble_eq_true rfl, Nat.le_of_ble_eq_true rfl, Nat.le_of_ble_eq_true rfl⟩ rfl hM10 (fun m10 hp10 => ?_)
    replace h := h m10 hp10
    refine tr_aload_n hC dX6_find_13 rfl rfl ?_
    refine tr_getr hC dX6_find_14 gf_X6_35 sh_40 rfl ?_
    refine tr_xVv (As := []) (fr2 := 0) (lo2 := 0) hC dX6_find_17 mc_X6_52 mv_X7_clear sh_104 rfl ⟨Nat.le_of_ble_eq_true rfl, Nat.le_of_ble_eq_true rfl, Nat.le_of_ble_eq_true rfl⟩ rfl (C_X7_clear_104 _ m10 ) ?_
    refine tr_aload_n hC dX6_find_20 rfl rfl ?_
    refine tr_aload_n hC dX6_find_21 rfl rfl ?_
    refine tr_xVi (As := []) (fr2 := 0) (lo2 := 0) hC dX6_find_22 mc_X6_55 mv_X2_frames sh_1 rfl ⟨Nat.le_of_ble_eq_true rfl, Nat.le_of_ble_eq_true rfl, Nat.le_of_ble_eq_true rfl⟩ rfl (tmi_v (C_X2_frames _ (mset m10 104 1 0) ) (ms_ne (by decide))) ?_
    refine tr_if_le hC dX6_find_25 (tgt := 39) rfl (fun c25 => ?_) (fun c25 => ?_)
    · replace h := h.1 c25
      refine tr_ldc hC dX6_find_39 lc_X6_39 ?_
      refine tr_puti hC dX6_find_41 gp_X6_40 sh_40 rfl rfl rfl ?_
      refine tr_aload_n hC dX6_find_44 rfl rfl ?_
      refine tr_gi (v := 1000000) hC dX6_find_45 gf_X6_40 sh_40 rfl (ms_eq) ?_
      refine tr_ldc hC dX6_find_48 lc_X6_39 ?_
      refine tr_icmp_ge hC dX6_find_50 (tgt := 59) rfl (fun _ => ?_) (fun h => absurd h (by decide))
      refine tr_aload_n hC dX6_find_59 rfl rfl ?_
      refine tr_iconst (v := 1) hC dX6_find_60 (by decide) ?_
      refine tr_puti hC dX6_find_61 gp_X6_44 sh_40 rfl (by decide) (by decide) ?_
      refine tr_aload_n hC dX6_find_64 rfl rfl ?_
      refine tr_gi (v := 1000000) hC dX6_find_65 gf_X6_40 sh_40 rfl ((ms_sl (by decide)).trans (ms_eq)) ?_
      refine tr_ldc hC dX6_find_68 lc_X6_39 ?_
      refine tr_icmp_ge hC dX6_find_70 (tgt := 77) rfl (fun _ => ?_) (fun h => absurd h (by decide))
      refine tr_iconst (v := 0) hC dX6_find_77 (by decide) ?_
      exact tr_zret hC hT dX6_find_78 (nar_b (by decide)) h
    · replace h := h.2 c25
      refine tr_aload_n hC dX6_find_28 rfl rfl ?_
      refine tr_aload_n hC dX6_find_29 rfl rfl ?_
      refine tr_iconst (v := (-1)) hC dX6_find_30 (by decide) ?_
      refine tr_iconst (v := 0) hC dX6_find_31 (by decide) ?_
      refine tr_iconst (v := (-1)) hC dX6_find_32 (by decide) ?_
      obtain ⟨post33, hM33, h⟩ := h
      refine tr_cVi (As := [.inr 10, .inl (-1), .inl 0, .inl (-1)]) (fr2 := 2) (lo2 := 45) hC dX6_find_33 mc_X6_61 mv_X6_cheapestBehind sh_40 rfl ⟨Nat.le_of_ble_eq_true rfl, Nat.le_of_ble_eq_true rfl, Nat.le_of_ble_eq_true rfl⟩ rfl hM33 (fun x33 m33 hp33 => ?_)
      replace h := h x33 m33 hp33
      refine tr_goto hC dX6_find_36 (tgt := 41) rfl ?_
      refine tr_puti hC dX6_find_41 gp_X6_40 sh_40 rfl rfl rfl ?_
      refine tr_aload_n hC dX6_find_44 rfl rfl ?_
      refine tr_gi (v := x33) hC dX6_find_45 gf_X6_40 sh_40 rfl (ms_eq) ?_
      refine tr_ldc hC dX6_find_48 lc_X6_39 ?_
      refine tr_icmp_ge hC dX6_find_50 (tgt := 59) rfl (fun c50 => ?_) (fun c50 => ?_)
      · replace h := h.1 c50
        refine tr_aload_n hC dX6_find_59 rfl rfl ?_
        refine tr_iconst (v := 1) hC dX6_find_60 (by decide) ?_
        refine tr_puti hC dX6_find_61 gp_X6_44 sh_40 rfl (by decide) (by decide) ?_
        refine tr_aload_n hC dX6_find_64 rfl rfl ?_
        refine tr_gi (v := x33) hC dX6_find_65 gf_X6_40 sh_40 rfl ((ms_sl (by decide)).trans (ms_eq)) ?_
        refine tr_ldc hC dX6_find_68 lc_X6_39 ?_
        refine tr_icmp_ge hC dX6_find_70 (tgt := 77) rfl (fun _ => ?_) (fun h => absurd c50 h)
        refine tr_iconst (v := 0) hC dX6_find_77 (by decide) ?_
        exact tr_zret hC hT dX6_find_78 (nar_b (by decide)) h
      · replace h := h.2 c50
        refine tr_aload_n hC dX6_find_53 rfl rfl ?_
        refine tr_aload_n hC dX6_find_54 rfl rfl ?_
        refine tr_aload_n hC dX6_find_55 rfl rfl ?_
        obtain ⟨post56, hM56, h⟩ := h
        refine tr_cVv (As := [.inr 1, .inr 10]) (fr2 := 4) (lo2 := 105) hC dX6_find_56 mc_X6_65 mv_X6_findRow sh_40 rfl ⟨Nat.le_of_ble_eq_true rfl, Nat.le_of_ble_eq_true rfl, Nat.le_of_ble_eq_true rfl⟩ rfl hM56 (fun m56 hp56 => ?_)
        replace h := h m56 hp56
        refine tr_aload_n hC dX6_find_59 rfl rfl ?_
        refine tr_iconst (v := 1) hC dX6_find_60 (by decide) ?_
        refine tr_puti hC dX6_find_61 gp_X6_44 sh_40 rfl (by decide) (by decide) ?_
        refine tr_aload_n hC dX6_find_64 rfl rfl ?_
        refine tr_gi (v := m56 40 5) hC dX6_find_65 gf_X6_40 sh_40 rfl (ms_sl (by decide)) ?_
        refine tr_ldc hC dX6_find_68 lc_X6_39 ?_
        refine tr_icmp_ge hC dX6_find_70 (tgt := 77) rfl (fun c70 => ?_) (fun c70 => ?_)
        · replace h := h.1 c70
          refine tr_iconst (v := 0) hC dX6_find_77 (by decide) ?_
          exact tr_zret hC hT dX6_find_78 (nar_b (by decide)) h
        · replace h := h.2 c70
          refine tr_iconst (v := 1) hC dX6_find_73 (by decide) ?_
          refine tr_goto hC dX6_find_74 (tgt := 78) rfl ?_
          exact tr_zret hC hT dX6_find_78 (nar_b (by decide)) h
set_option maxRecDepth 100000 in
theorem K_X10_least_0 {κ : TCx} {post0 : Option TV → TMem → Prop} (hC : TC κ RX10 cX10_least 1 6 153) (hT : TR κ (some .int) post0) (mem : TMem) (h : ∃ post : Int32 → TMem → Prop, TMi κ.1.2.1 i_X6_find 5 131 [.inr 40, .inr 1, .inr 10] mem post ∧ ∀ (x12 : Int32) (m12 : TMem), post x12 m12 → ((x12 = 0 → (post0 (some (.inl (-3))) m12)) ∧ (¬ (x12 = 0) → post0 (some (.inl (m12 40 5))) m12))) : WT κ 0 [some (.inr 0)] [] mem := by
  refine tr_aload_n hC dX10_least_0 rfl rfl ?_
  refine tr_getr hC dX10_least_1 gf_X10_26 sh_0 rfl ?_
  refine tr_aload_n hC dX10_least_4 rfl rfl ?_
  refine tr_getr hC dX10_least_5 gf_X10_10 sh_0 rfl ?_
  refine tr_aload_n hC dX10_least_8 rfl rfl ?_
  refine tr_getr hC dX10_least_9 gf_X10_19 sh_0 rfl ?_
  obtain ⟨post12, hM12, h⟩ := h
  refine tr_cVi (As := [.inr 1, .inr 10]) (fr2 := 5) (lo2 := 131) hC dX10_least_12 mc_X10_142 mv_X6_find sh_40 rfl ⟨Nat.le_of_ble_eq_true rfl, Nat.le_of_ble_eq_true rfl, Nat.le_of_ble_eq_true rfl⟩ rfl hM12 (fun x12 m12 hp12 => ?_)
  replace h := h x12 m12 hp12
  refine tr_if_eq hC dX10_least_15 (tgt := 28) rfl (fun c15 => ?_) (fun c15 => ?_)
  · replace h := h.1 c15
    refine tr_bipush (v := (-3)) hC dX10_least_28 (by decide) ?_
    exact tr_iret hC hT dX10_least_30 h
  · replace h := h.2 c15
    refine tr_aload_n hC dX10_least_18 rfl rfl ?_
    refine tr_getr hC dX10_least_19 gf_X10_26 sh_0 rfl ?_
    refine tr_xVi (As := []) (fr2 := 0) (lo2 := 0) hC dX10_least_22 mc_X10_146 mv_X6_cheapest sh_40 rfl ⟨Nat.le_of_ble_eq_true rfl, Nat.le_of_ble_eq_true rfl, Nat.le_of_ble_eq_true rfl⟩ rfl (C_X6_cheapest _ m12 ) ?_
    refine tr_goto hC dX10_least_25 (tgt := 30) rfl ?_
    exact tr_iret hC hT dX10_least_30 h
set_option maxRecDepth 100000 in
theorem K_X10_rowSize_0 {κ : TCx} {post0 : Option TV → TMem → Prop} (hC : TC κ RX10 cX10_rowSize 1 6 153) (hT : TR κ (some .int) post0) (mem : TMem) (h : ∃ post : Int32 → TMem → Prop, TMi κ.1.2.1 i_X6_find 5 131 [.inr 40, .inr 1, .inr 10] mem post ∧ ∀ (x12 : Int32) (m12 : TMem), post x12 m12 → ((x12 = 0 → (post0 (some (.inl (-3))) m12)) ∧ (¬ (x12 = 0) → post0 (some (.inl (m12 104 1))) m12))) : WT κ 0 [some (.inr 0)] [] mem := by
  refine tr_aload_n hC dX10_rowSize_0 rfl rfl ?_
  refine tr_getr hC dX10_rowSize_1 gf_X10_26 sh_0 rfl ?_
  refine tr_aload_n hC dX10_rowSize_4 rfl rfl ?_
  refine tr_getr hC dX10_rowSize_5 gf_X10_10 sh_0 rfl ?_
  refine tr_aload_n hC dX10_rowSize_8 rfl rfl ?_
  refine tr_getr hC dX10_rowSize_9 gf_X10_19 sh_0 rfl ?_
  obtain ⟨post12, hM12, h⟩ := h
  refine tr_cVi (As := [.inr 1, .inr 10]) (fr2 := 5) (lo2 := 131) hC dX10_rowSize_12 mc_X10_142 mv_X6_find sh_40 rfl ⟨Nat.le_of_ble_eq_true rfl, Nat.le_of_ble_eq_true rfl, Nat.le_of_ble_eq_true rfl⟩ rfl hM12 (fun x12 m12 hp12 => ?_)
  replace h := h x12 m12 hp12
  refine tr_if_eq hC dX10_rowSize_15 (tgt := 31) rfl (fun c15 => ?_) (fun c15 => ?_)
  · replace h := h.1 c15
    refine tr_bipush (v := (-3)) hC dX10_rowSize_31 (by decide) ?_
    exact tr_iret hC hT dX10_rowSize_33 h
  · replace h := h.2 c15
    refine tr_aload_n hC dX10_rowSize_18 rfl rfl ?_
    refine tr_getr hC dX10_rowSize_19 gf_X10_26 sh_0 rfl ?_
    refine tr_xVr (As := []) (fr2 := 0) (lo2 := 0) hC dX10_rowSize_22 mc_X10_149 mv_X6_row sh_40 rfl ⟨Nat.le_of_ble_eq_true rfl, Nat.le_of_ble_eq_true rfl, Nat.le_of_ble_eq_true rfl⟩ rfl (C_X6_row _ m12 ) ?_
    refine tr_xVi (As := []) (fr2 := 0) (lo2 := 0) hC dX10_rowSize_25 mc_X10_153 mv_X7_size sh_104 rfl ⟨Nat.le_of_ble_eq_true rfl, Nat.le_of_ble_eq_true rfl, Nat.le_of_ble_eq_true rfl⟩ rfl (C_X7_size_104 _ m12 ) ?_
    refine tr_goto hC dX10_rowSize_28 (tgt := 33) rfl ?_
    exact tr_iret hC hT dX10_rowSize_33 h
set_option maxRecDepth 100000 in
theorem K_X10_rowAt_0 {κ : TCx} {post0 : Option TV → TMem → Prop} (hC : TC κ RX10 cX10_rowAt 2 6 153) (hT : TR κ (some .int) post0) (mem : TMem) (p1 : Int32) (h : ∃ post : Int32 → TMem → Prop, TMi κ.1.2.1 i_X6_find 5 131 [.inr 40, .inr 1, .inr 10] mem post ∧ ∀ (x12 : Int32) (m12 : TMem), post x12 m12 → ((x12 = 0 → (post0 (some (.inl (-3))) m12)) ∧ (¬ (x12 = 0) → (((F_X10_within p1 0 ((m12 104 1) - 1)) = 0 → (post0 (some (.inl (-2))) m12)) ∧ (¬ ((F_X10_within p1 0 ((m12 104 1) - 1)) = 0) → (G_X7_at_104 m12 p1 ∧ (post0 (some (.inl (F_X7_at_104 m12 p1))) m12))))))) : WT κ 0 [some (.inr 0), some (.inl p1)] [] mem := by
  refine tr_aload_n hC dX10_rowAt_0 rfl rfl ?_
  refine tr_getr hC dX10_rowAt_1 gf_X10_26 sh_0 rfl ?_
  refine tr_aload_n hC dX10_rowAt_4 rfl rfl ?_
  refine tr_getr hC dX10_rowAt_5 gf_X10_10 sh_0 rfl ?_
  refine tr_aload_n hC dX10_rowAt_8 rfl rfl ?_
  refine tr_getr hC dX10_rowAt_9 gf_X10_19 sh_0 rfl ?_
  obtain ⟨post12, hM12, h⟩ := h
  refine tr_cVi (As := [.inr 1, .inr 10]) (fr2 := 5) (lo2 := 131) hC dX10_rowAt_12 mc_X10_142 mv_X6_find sh_40 rfl ⟨Nat.le_of_ble_eq_true rfl, Nat.le_of_ble_eq_true rfl, Nat.le_of_ble_eq_true rfl⟩ rfl hM12 (fun x12 m12 hp12 => ?_)
  replace h := h x12 m12 hp12
  refine tr_if_ne hC dX10_rowAt_15 (tgt := 21) rfl (fun c15 => ?_) (fun c15 => ?_)
  · replace h := h.2 c15
    refine tr_iload_n hC dX10_rowAt_21 rfl rfl ?_
    refine tr_iconst (v := 0) hC dX10_rowAt_22 (by decide) ?_
    refine tr_aload_n hC dX10_rowAt_23 rfl rfl ?_
    refine tr_getr hC dX10_rowAt_24 gf_X10_26 sh_0 rfl ?_
    refine tr_xVr (As := []) (fr2 := 0) (lo2 := 0) hC dX10_rowAt_27 mc_X10_149 mv_X6_row sh_40 rfl ⟨Nat.le_of_ble_eq_true rfl, Nat.le_of_ble_eq_true rfl, Nat.le_of_ble_eq_true rfl⟩ rfl (C_X6_row _ m12 ) ?_
    refine tr_xVi (As := []) (fr2 := 0) (lo2 := 0) hC dX10_rowAt_30 mc_X10_153 mv_X7_size sh_104 rfl ⟨Nat.le_of_ble_eq_true rfl, Nat.le_of_ble_eq_true rfl, Nat.le_of_ble_eq_true rfl⟩ rfl (C_X7_size_104 _ m12 ) ?_
    refine tr_iconst (v := 1) hC dX10_rowAt_33 (by decide) ?_
    refine tr_isub hC dX10_rowAt_34 ?_
    refine tr_xSi (As := [.inl p1, .inl 0, .inl ((m12 104 1) - 1)]) (fr2 := 0) (lo2 := 0) hC dX10_rowAt_35 mc_X10_94 mst_X10_within ⟨Nat.le_of_ble_eq_true rfl, Nat.le_of_ble_eq_true rfl, Nat.le_of_ble_eq_true rfl⟩ rfl (C_X10_within _ m12 p1 0 ((m12 104 1) - 1)) ?_
    refine tr_if_eq hC dX10_rowAt_38 (tgt := 55) rfl (fun c38 => ?_) (fun c38 => ?_)
    · replace h := h.1 c38
      refine tr_bipush (v := (-2)) hC dX10_rowAt_55 (by decide) ?_
      exact tr_iret hC hT dX10_rowAt_57 h
    · replace h := h.2 c38
      refine tr_aload_n hC dX10_rowAt_41 rfl rfl ?_
      refine tr_getr hC dX10_rowAt_42 gf_X10_26 sh_0 rfl ?_
      refine tr_xVr (As := []) (fr2 := 0) (lo2 := 0) hC dX10_rowAt_45 mc_X10_149 mv_X6_row sh_40 rfl ⟨Nat.le_of_ble_eq_true rfl, Nat.le_of_ble_eq_true rfl, Nat.le_of_ble_eq_true rfl⟩ rfl (C_X6_row _ m12 ) ?_
      refine tr_iload_n hC dX10_rowAt_48 rfl rfl ?_
      obtain ⟨g1, h⟩ := h
      refine tr_xVi (As := [.inl p1]) (fr2 := 0) (lo2 := 0) hC dX10_rowAt_49 mc_X10_156 mv_X7_at sh_104 rfl ⟨Nat.le_of_ble_eq_true rfl, Nat.le_of_ble_eq_true rfl, Nat.le_of_ble_eq_true rfl⟩ rfl (C_X7_at_104 _ m12 p1 g1) ?_
      refine tr_goto hC dX10_rowAt_52 (tgt := 57) rfl ?_
      exact tr_iret hC hT dX10_rowAt_57 h
  · replace h := h.1 c15
    refine tr_bipush (v := (-3)) hC dX10_rowAt_18 (by decide) ?_
    exact tr_iret hC hT dX10_rowAt_20 h
set_option maxRecDepth 100000 in
theorem K_X6_cheapestWithAnotherFirst_0 {κ : TCx} {post0 : Option TV → TMem → Prop} (hC : TC κ RX6 cX6_cheapestWithAnotherFirst 2 3 71) (hT : TR κ (some .int) post0) (mem : TMem) (h : G_X7_at_104 mem 0 ∧ (∃ post : Int32 → TMem → Prop, TMi κ.1.2.1 i_X6_cheapestBehind 2 45 [.inr 40, .inr 10, .inl (-1), .inl 0, .inl (F_X7_at_104 mem 0)] mem post ∧ ∀ (x12 : Int32) (m12 : TMem), post x12 m12 → post0 (some (.inl x12)) m12)) : WT κ 0 [some (.inr 40), some (.inr 10)] [] mem := by
  refine tr_aload_n hC dX6_cheapestWithAnotherFirst_0 rfl rfl ?_
  refine tr_aload_n hC dX6_cheapestWithAnotherFirst_1 rfl rfl ?_
  refine tr_iconst (v := (-1)) hC dX6_cheapestWithAnotherFirst_2 (by decide) ?_
  refine tr_iconst (v := 0) hC dX6_cheapestWithAnotherFirst_3 (by decide) ?_
  refine tr_aload_n hC dX6_cheapestWithAnotherFirst_4 rfl rfl ?_
  refine tr_getr hC dX6_cheapestWithAnotherFirst_5 gf_X6_35 sh_40 rfl ?_
  refine tr_iconst (v := 0) hC dX6_cheapestWithAnotherFirst_8 (by decide) ?_
  obtain ⟨g1, h⟩ := h
  refine tr_xVi (As := [.inl 0]) (fr2 := 0) (lo2 := 0) hC dX6_cheapestWithAnotherFirst_9 mc_X6_68 mv_X7_at sh_104 rfl ⟨Nat.le_of_ble_eq_true rfl, Nat.le_of_ble_eq_true rfl, Nat.le_of_ble_eq_true rfl⟩ rfl (C_X7_at_104 _ mem 0 g1) ?_
  obtain ⟨post12, hM12, h⟩ := h
  refine tr_cVi (As := [.inr 10, .inl (-1), .inl 0, .inl (F_X7_at_104 mem 0)]) (fr2 := 2) (lo2 := 45) hC dX6_cheapestWithAnotherFirst_12 mc_X6_61 mv_X6_cheapestBehind sh_40 rfl ⟨Nat.le_of_ble_eq_true rfl, Nat.le_of_ble_eq_true rfl, Nat.le_of_ble_eq_true rfl⟩ rfl hM12 (fun x12 m12 hp12 => ?_)
  replace h := h x12 m12 hp12
  exact tr_iret hC hT dX6_cheapestWithAnotherFirst_15 h
set_option maxRecDepth 100000 in
theorem K_X10_beside_0 {κ : TCx} {post0 : Option TV → TMem → Prop} (hC : TC κ RX10 cX10_beside 2 6 153) (hT : TR κ (some .int) post0) (mem : TMem) (h : ∃ post : Int32 → TMem → Prop, TMi κ.1.2.1 i_X6_find 5 131 [.inr 40, .inr 1, .inr 10] mem post ∧ ∀ (x12 : Int32) (m12 : TMem), post x12 m12 → ((x12 = 0 → (post0 (some (.inl (-3))) m12)) ∧ (¬ (x12 = 0) → (∃ post : Int32 → TMem → Prop, TMi κ.1.2.1 i_X6_cheapestWithAnotherFirst 3 71 [.inr 40, .inr 10] m12 post ∧ ∀ (x29 : Int32) (m29 : TMem), post x29 m29 → ((1000000 ≤ x29 → (post0 (some (.inl (-1))) m29)) ∧ (¬ (1000000 ≤ x29) → post0 (some (.inl x29)) m29)))))) : WT κ 0 [some (.inr 0), none] [] mem := by
  refine tr_aload_n hC dX10_beside_0 rfl rfl ?_
  refine tr_getr hC dX10_beside_1 gf_X10_26 sh_0 rfl ?_
  refine tr_aload_n hC dX10_beside_4 rfl rfl ?_
  refine tr_getr hC dX10_beside_5 gf_X10_10 sh_0 rfl ?_
  refine tr_aload_n hC dX10_beside_8 rfl rfl ?_
  refine tr_getr hC dX10_beside_9 gf_X10_19 sh_0 rfl ?_
  obtain ⟨post12, hM12, h⟩ := h
  refine tr_cVi (As := [.inr 1, .inr 10]) (fr2 := 5) (lo2 := 131) hC dX10_beside_12 mc_X10_142 mv_X6_find sh_40 rfl ⟨Nat.le_of_ble_eq_true rfl, Nat.le_of_ble_eq_true rfl, Nat.le_of_ble_eq_true rfl⟩ rfl hM12 (fun x12 m12 hp12 => ?_)
  replace h := h x12 m12 hp12
  refine tr_if_ne hC dX10_beside_15 (tgt := 21) rfl (fun c15 => ?_) (fun c15 => ?_)
  · replace h := h.2 c15
    refine tr_aload_n hC dX10_beside_21 rfl rfl ?_
    refine tr_getr hC dX10_beside_22 gf_X10_26 sh_0 rfl ?_
    refine tr_aload_n hC dX10_beside_25 rfl rfl ?_
    refine tr_getr hC dX10_beside_26 gf_X10_19 sh_0 rfl ?_
    obtain ⟨post29, hM29, h⟩ := h
    refine tr_cVi (As := [.inr 10]) (fr2 := 3) (lo2 := 71) hC dX10_beside_29 mc_X10_159 mv_X6_cheapestWithAnotherFirst sh_40 rfl ⟨Nat.le_of_ble_eq_true rfl, Nat.le_of_ble_eq_true rfl, Nat.le_of_ble_eq_true rfl⟩ rfl hM29 (fun x29 m29 hp29 => ?_)
    replace h := h x29 m29 hp29
    refine tr_istore_n (loc2 := [some (.inr 0), some (.inl x29)]) hC dX10_beside_32 rfl (by decide) rfl ?_
    refine tr_iload_n hC dX10_beside_33 rfl rfl ?_
    refine tr_ldc hC dX10_beside_34 lc_X10_163 ?_
    refine tr_icmp_ge hC dX10_beside_36 (tgt := 43) rfl (fun c36 => ?_) (fun c36 => ?_)
    · replace h := h.1 c36
      refine tr_iconst (v := (-1)) hC dX10_beside_43 (by decide) ?_
      exact tr_iret hC hT dX10_beside_44 h
    · replace h := h.2 c36
      refine tr_iload_n hC dX10_beside_39 rfl rfl ?_
      refine tr_goto hC dX10_beside_40 (tgt := 44) rfl ?_
      exact tr_iret hC hT dX10_beside_44 h
  · replace h := h.1 c15
    refine tr_bipush (v := (-3)) hC dX10_beside_18 (by decide) ?_
    exact tr_iret hC hT dX10_beside_20 h
set_option maxRecDepth 100000 in
theorem K_X3_takeRow_0 {κ : TCx} {post0 : Option TV → TMem → Prop} (hC : TC κ RX3 cX3_takeRow 8 2 45) (hT : TR κ none post0) (mem : TMem) (h : ∃ post : TMem → Prop, TMv κ.1.2.1 i_J7_fill_53178 0 0 [.inr 109, .inl (-1)] mem post ∧ ∀ (m5 : TMem), post m5 → (WT κ 18 [some (.inr 108), some (.inr 10), some (.inr 106), some (.inl 0), none, none, none, none] [] (mset m5 108 4 (m5 106 1)))) : WT κ 0 [some (.inr 108), some (.inr 10), some (.inr 106), none, none, none, none, none] [] mem := by
  refine tr_aload_n hC dX3_takeRow_0 rfl rfl ?_
  refine tr_getr hC dX3_takeRow_1 gf_X3_11 sh_108 rfl ?_
  refine tr_iconst (v := (-1)) hC dX3_takeRow_4 (by decide) ?_
  obtain ⟨post5, hM5, h⟩ := h
  refine tr_cSv (As := [.inr 109, .inl (-1)]) (fr2 := 0) (lo2 := 0) hC dX3_takeRow_5 mc_X3_70 mst_J7_fill_53178 ⟨Nat.le_of_ble_eq_true rfl, Nat.le_of_ble_eq_true rfl, Nat.le_of_ble_eq_true rfl⟩ rfl hM5 (fun m5 hp5 => ?_)
  replace h := h m5 hp5
  refine tr_aload_n hC dX3_takeRow_8 rfl rfl ?_
  refine tr_aload_n hC dX3_takeRow_9 rfl rfl ?_
  refine tr_xVi (As := []) (fr2 := 0) (lo2 := 0) hC dX3_takeRow_10 mc_X3_34 mv_X7_size sh_106 rfl ⟨Nat.le_of_ble_eq_true rfl, Nat.le_of_ble_eq_true rfl, Nat.le_of_ble_eq_true rfl⟩ rfl (C_X7_size_106 _ m5 ) ?_
  refine tr_puti hC dX3_takeRow_13 gp_X3_26 sh_108 rfl rfl rfl ?_
  refine tr_iconst (v := 0) hC dX3_takeRow_16 (by decide) ?_
  refine tr_istore_n (loc2 := [some (.inr 108), some (.inr 10), some (.inr 106), some (.inl 0), none, none, none, none]) hC dX3_takeRow_17 rfl (by decide) rfl ?_
  exact h
set_option maxRecDepth 100000 in
theorem K_X3_takeRow_18 {κ : TCx} {post0 : Option TV → TMem → Prop} (hC : TC κ RX3 cX3_takeRow 8 2 45) (hT : TR κ none post0) (mem : TMem) (v3 : Int32) (h : ((mem 108 4) ≤ v3 → post0 none mem) ∧ (¬ ((mem 108 4) ≤ v3) → (G_X7_at_106 mem v3 ∧ (((mem 108 4) ≤ (v3 + 1) → ((G_X5_joint (F_X7_at_106 mem v3) (-1)) ∧ (vp_in v3 12 ∧ (WT κ 69 [some (.inr 108), some (.inr 10), some (.inr 106), some (.inl v3), some (.inl (F_X7_at_106 mem v3)), some (.inl 0), none, none] [] (mset mem 110 v3.toNatClampNeg (F_X5_joint mem (F_X7_at_106 mem v3) (-1))))))) ∧ (¬ ((mem 108 4) ≤ (v3 + 1)) → ((G_X7_at_106 mem (v3 + 1)) ∧ ((G_X5_joint (F_X7_at_106 mem v3) (F_X7_at_106 mem (v3 + 1))) ∧ (vp_in v3 12 ∧ (WT κ 69 [some (.inr 108), some (.inr 10), some (.inr 106), some (.inl v3), some (.inl (F_X7_at_106 mem v3)), some (.inl 0), none, none] [] (mset mem 110 v3.toNatClampNeg (F_X5_joint mem (F_X7_at_106 mem v3) (F_X7_at_106 mem (v3 + 1))))))))))))) : WT κ 18 [some (.inr 108), some (.inr 10), some (.inr 106), some (.inl v3), none, none, none, none] [] mem := by
  refine tr_iload_n hC dX3_takeRow_18 rfl rfl ?_
  refine tr_aload_n hC dX3_takeRow_19 rfl rfl ?_
  refine tr_gi (v := mem 108 4) hC dX3_takeRow_20 gf_X3_26 sh_108 rfl rfl ?_
  refine tr_icmp_ge hC dX3_takeRow_23 (tgt := 145) rfl (fun c23 => ?_) (fun c23 => ?_)
  · replace h := h.1 c23
    exact tr_vret hC hT dX3_takeRow_145 h
  · replace h := h.2 c23
    refine tr_aload_n hC dX3_takeRow_26 rfl rfl ?_
    refine tr_iload_n hC dX3_takeRow_27 rfl rfl ?_
    obtain ⟨g1, h⟩ := h
    refine tr_xVi (As := [.inl v3]) (fr2 := 0) (lo2 := 0) hC dX3_takeRow_28 mc_X3_54 mv_X7_at sh_106 rfl ⟨Nat.le_of_ble_eq_true rfl, Nat.le_of_ble_eq_true rfl, Nat.le_of_ble_eq_true rfl⟩ rfl (C_X7_at_106 _ mem v3 g1) ?_
    refine tr_istore (loc2 := [some (.inr 108), some (.inr 10), some (.inr 106), some (.inl v3), some (.inl (F_X7_at_106 mem v3)), none, none, none]) hC dX3_takeRow_31 (by decide) rfl ?_
    refine tr_aload_n hC dX3_takeRow_33 rfl rfl ?_
    refine tr_getr hC dX3_takeRow_34 gf_X3_15 sh_108 rfl ?_
    refine tr_iload_n hC dX3_takeRow_37 rfl rfl ?_
    refine tr_aload_n hC dX3_takeRow_38 rfl rfl ?_
    refine tr_iload hC dX3_takeRow_39 rfl ?_
    refine tr_iload_n hC dX3_takeRow_41 rfl rfl ?_
    refine tr_iconst (v := 1) hC dX3_takeRow_42 (by decide) ?_
    refine tr_iadd hC dX3_takeRow_43 ?_
    refine tr_aload_n hC dX3_takeRow_44 rfl rfl ?_
    refine tr_gi (v := mem 108 4) hC dX3_takeRow_45 gf_X3_26 sh_108 rfl rfl ?_
    refine tr_icmp_ge hC dX3_takeRow_48 (tgt := 61) rfl (fun c48 => ?_) (fun c48 => ?_)
    · replace h := h.1 c48
      refine tr_iconst (v := (-1)) hC dX3_takeRow_61 (by decide) ?_
      obtain ⟨g2, h⟩ := h
      refine tr_xVi (As := [.inl (F_X7_at_106 mem v3), .inl (-1)]) (fr2 := 1) (lo2 := 22) hC dX3_takeRow_62 mc_X3_58 mv_X5_joint sh_10 rfl ⟨Nat.le_of_ble_eq_true rfl, Nat.le_of_ble_eq_true rfl, Nat.le_of_ble_eq_true rfl⟩ rfl (C_X5_joint _ mem (F_X7_at_106 mem v3) (-1) g2) ?_
      obtain ⟨g3, h⟩ := h
      refine tr_iast hC dX3_takeRow_65 sh_110 g3 ?_
      refine tr_iconst (v := 0) hC dX3_takeRow_66 (by decide) ?_
      refine tr_istore (loc2 := [some (.inr 108), some (.inr 10), some (.inr 106), some (.inl v3), some (.inl (F_X7_at_106 mem v3)), some (.inl 0), none, none]) hC dX3_takeRow_67 (by decide) rfl ?_
      exact h
    · replace h := h.2 c48
      refine tr_aload_n hC dX3_takeRow_51 rfl rfl ?_
      refine tr_iload_n hC dX3_takeRow_52 rfl rfl ?_
      refine tr_iconst (v := 1) hC dX3_takeRow_53 (by decide) ?_
      refine tr_iadd hC dX3_takeRow_54 ?_
      obtain ⟨g4, h⟩ := h
      refine tr_xVi (As := [.inl (v3 + 1)]) (fr2 := 0) (lo2 := 0) hC dX3_takeRow_55 mc_X3_54 mv_X7_at sh_106 rfl ⟨Nat.le_of_ble_eq_true rfl, Nat.le_of_ble_eq_true rfl, Nat.le_of_ble_eq_true rfl⟩ rfl (C_X7_at_106 _ mem (v3 + 1) g4) ?_
      refine tr_goto hC dX3_takeRow_58 (tgt := 62) rfl ?_
      obtain ⟨g5, h⟩ := h
      refine tr_xVi (As := [.inl (F_X7_at_106 mem v3), .inl (F_X7_at_106 mem (v3 + 1))]) (fr2 := 1) (lo2 := 22) hC dX3_takeRow_62 mc_X3_58 mv_X5_joint sh_10 rfl ⟨Nat.le_of_ble_eq_true rfl, Nat.le_of_ble_eq_true rfl, Nat.le_of_ble_eq_true rfl⟩ rfl (C_X5_joint _ mem (F_X7_at_106 mem v3) (F_X7_at_106 mem (v3 + 1)) g5) ?_
      obtain ⟨g6, h⟩ := h
      refine tr_iast hC dX3_takeRow_65 sh_110 g6 ?_
      refine tr_iconst (v := 0) hC dX3_takeRow_66 (by decide) ?_
      refine tr_istore (loc2 := [some (.inr 108), some (.inr 10), some (.inr 106), some (.inl v3), some (.inl (F_X7_at_106 mem v3)), some (.inl 0), none, none]) hC dX3_takeRow_67 (by decide) rfl ?_
      exact h
set_option maxRecDepth 100000 in
theorem K_X3_takeRow_69 {κ : TCx} {post0 : Option TV → TMem → Prop} (hC : TC κ RX3 cX3_takeRow 8 2 45) (hT : TR κ none post0) (mem : TMem) (v3 : Int32) (v4 : Int32) (v5 : Int32) (h : G_X5_waysOf v4 ∧ (((mem 29 v4.toNatClampNeg) ≤ v5 → (WT κ 18 [some (.inr 108), some (.inr 10), some (.inr 106), some (.inl (v3 + 1)), none, none, none, none] [] mem)) ∧ (¬ ((mem 29 v4.toNatClampNeg) ≤ v5) → (WT κ 94 [some (.inr 108), some (.inr 10), some (.inr 106), some (.inl v3), some (.inl v4), some (.inl v5), some (.inl ((v3 * 8) + (v5 * 4))), some (.inl 0)] [] mem)))) : WT κ 69 [some (.inr 108), some (.inr 10), some (.inr 106), some (.inl v3), some (.inl v4), some (.inl v5), none, none] [] mem := by
  refine tr_iload hC dX3_takeRow_69 rfl ?_
  refine tr_aload_n hC dX3_takeRow_71 rfl rfl ?_
  refine tr_iload hC dX3_takeRow_72 rfl ?_
  obtain ⟨g1, h⟩ := h
  refine tr_xVi (As := [.inl v4]) (fr2 := 0) (lo2 := 0) hC dX3_takeRow_74 mc_X3_76 mv_X5_waysOf sh_10 rfl ⟨Nat.le_of_ble_eq_true rfl, Nat.le_of_ble_eq_true rfl, Nat.le_of_ble_eq_true rfl⟩ rfl (C_X5_waysOf _ mem v4 g1) ?_
  refine tr_icmp_ge hC dX3_takeRow_77 (tgt := 139) rfl (fun c77 => ?_) (fun c77 => ?_)
  · replace h := h.1 c77
    refine tr_iinc (v := v3 + 1) (loc2 := [some (.inr 108), some (.inr 10), some (.inr 106), some (.inl (v3 + 1)), some (.inl v4), some (.inl v5), none, none]) hC dX3_takeRow_139 rfl rfl (by decide) rfl ?_
    refine tr_goto hC dX3_takeRow_142 (tgt := 18) rfl ?_
    exact tr_weak (tl_s (tl_s (tl_s (tl_s (tl_n (tl_n (tl_n (tl_n (tl_nil _))))))))) h
  · replace h := h.2 c77
    refine tr_iload_n hC dX3_takeRow_80 rfl rfl ?_
    refine tr_bipush (v := 8) hC dX3_takeRow_81 (by decide) ?_
    refine tr_imul hC dX3_takeRow_83 ?_
    refine tr_iload hC dX3_takeRow_84 rfl ?_
    refine tr_iconst (v := 4) hC dX3_takeRow_86 (by decide) ?_
    refine tr_imul hC dX3_takeRow_87 ?_
    refine tr_iadd hC dX3_takeRow_88 ?_
    refine tr_istore (loc2 := [some (.inr 108), some (.inr 10), some (.inr 106), some (.inl v3), some (.inl v4), some (.inl v5), some (.inl ((v3 * 8) + (v5 * 4))), none]) hC dX3_takeRow_89 (by decide) rfl ?_
    refine tr_iconst (v := 0) hC dX3_takeRow_91 (by decide) ?_
    refine tr_istore (loc2 := [some (.inr 108), some (.inr 10), some (.inr 106), some (.inl v3), some (.inl v4), some (.inl v5), some (.inl ((v3 * 8) + (v5 * 4))), some (.inl 0)]) hC dX3_takeRow_92 (by decide) rfl ?_
    exact h
set_option maxRecDepth 100000 in
theorem K_X3_takeRow_94 {κ : TCx} {post0 : Option TV → TMem → Prop} (hC : TC κ RX3 cX3_takeRow 8 2 45) (hT : TR κ none post0) (mem : TMem) (v3 : Int32) (v4 : Int32) (v5 : Int32) (v6 : Int32) (v7 : Int32) (h : G_X5_lengthOf v4 v5 ∧ (((mem 28 (Int32.toNatClampNeg ((v4 * 2) + v5))) ≤ v7 → (WT κ 69 [some (.inr 108), some (.inr 10), some (.inr 106), some (.inl v3), some (.inl v4), some (.inl (v5 + 1)), none, none] [] mem)) ∧ (¬ ((mem 28 (Int32.toNatClampNeg ((v4 * 2) + v5))) ≤ v7) → (G_X5_soundOf v4 v5 v7 ∧ ((vp_in (v6 + v7) 96) ∧ (WT κ 94 [some (.inr 108), some (.inr 10), some (.inr 106), some (.inl v3), some (.inl v4), some (.inl v5), some (.inl v6), some (.inl (v7 + 1))] [] (mset mem 109 (Int32.toNatClampNeg (v6 + v7)) (mem (12 + (Int32.toNatClampNeg ((v4 * 2) + v5))) v7.toNatClampNeg)))))))) : WT κ 94 [some (.inr 108), some (.inr 10), some (.inr 106), some (.inl v3), some (.inl v4), some (.inl v5), some (.inl v6), some (.inl v7)] [] mem := by
  refine tr_iload hC dX3_takeRow_94 rfl ?_
  refine tr_aload_n hC dX3_takeRow_96 rfl rfl ?_
  refine tr_iload hC dX3_takeRow_97 rfl ?_
  refine tr_iload hC dX3_takeRow_99 rfl ?_
  obtain ⟨g1, h⟩ := h
  refine tr_xVi (As := [.inl v4, .inl v5]) (fr2 := 0) (lo2 := 0) hC dX3_takeRow_101 mc_X3_79 mv_X5_lengthOf sh_10 rfl ⟨Nat.le_of_ble_eq_true rfl, Nat.le_of_ble_eq_true rfl, Nat.le_of_ble_eq_true rfl⟩ rfl (C_X5_lengthOf _ mem v4 v5 g1) ?_
  refine tr_icmp_ge hC dX3_takeRow_104 (tgt := 133) rfl (fun c104 => ?_) (fun c104 => ?_)
  · replace h := h.1 c104
    refine tr_iinc (v := v5 + 1) (loc2 := [some (.inr 108), some (.inr 10), some (.inr 106), some (.inl v3), some (.inl v4), some (.inl (v5 + 1)), some (.inl v6), some (.inl v7)]) hC dX3_takeRow_133 rfl rfl (by decide) rfl ?_
    refine tr_goto hC dX3_takeRow_136 (tgt := 69) rfl ?_
    exact tr_weak (tl_s (tl_s (tl_s (tl_s (tl_s (tl_s (tl_n (tl_n (tl_nil _))))))))) h
  · replace h := h.2 c104
    refine tr_aload_n hC dX3_takeRow_107 rfl rfl ?_
    refine tr_getr hC dX3_takeRow_108 gf_X3_11 sh_108 rfl ?_
    refine tr_iload hC dX3_takeRow_111 rfl ?_
    refine tr_iload hC dX3_takeRow_113 rfl ?_
    refine tr_iadd hC dX3_takeRow_115 ?_
    refine tr_aload_n hC dX3_takeRow_116 rfl rfl ?_
    refine tr_iload hC dX3_takeRow_117 rfl ?_
    refine tr_iload hC dX3_takeRow_119 rfl ?_
    refine tr_iload hC dX3_takeRow_121 rfl ?_
    obtain ⟨g2, h⟩ := h
    refine tr_xVi (As := [.inl v4, .inl v5, .inl v7]) (fr2 := 0) (lo2 := 0) hC dX3_takeRow_123 mc_X3_82 mv_X5_soundOf sh_10 rfl ⟨Nat.le_of_ble_eq_true rfl, Nat.le_of_ble_eq_true rfl, Nat.le_of_ble_eq_true rfl⟩ rfl (C_X5_soundOf _ mem v4 v5 v7 g2) ?_
    obtain ⟨g3, h⟩ := h
    refine tr_iast hC dX3_takeRow_126 sh_109 g3 ?_
    refine tr_iinc (v := v7 + 1) (loc2 := [some (.inr 108), some (.inr 10), some (.inr 106), some (.inl v3), some (.inl v4), some (.inl v5), some (.inl v6), some (.inl (v7 + 1))]) hC dX3_takeRow_127 rfl rfl (by decide) rfl ?_
    refine tr_goto hC dX3_takeRow_130 (tgt := 94) rfl ?_
    exact h
set_option maxRecDepth 100000 in
theorem K_X3_lookAhead_0 {κ : TCx} {post0 : Option TV → TMem → Prop} (hC : TC κ RX3 cX3_lookAhead 6 2 50) (hT : TR κ none post0) (mem : TMem) (h : vp_in (mem 1 2) 41 ∧ (∃ post : TMem → Prop, TMv κ.1.2.1 i_J7_fill_53178 0 0 [.inr (112 + (Int32.toNatClampNeg (mem 1 2))), .inl 1000000] mem post ∧ ∀ (m13 : TMem), post m13 → (WT κ 20 [some (.inr 108), some (.inr 1), some (.inl (mem 1 2)), some (.inl ((mem 1 2) - 1)), none, none] [] m13))) : WT κ 0 [some (.inr 108), some (.inr 1), none, none, none, none] [] mem := by
  refine tr_aload_n hC dX3_lookAhead_0 rfl rfl ?_
  refine tr_xVi (As := []) (fr2 := 0) (lo2 := 0) hC dX3_lookAhead_1 mc_X3_40 mv_X2_frames sh_1 rfl ⟨Nat.le_of_ble_eq_true rfl, Nat.le_of_ble_eq_true rfl, Nat.le_of_ble_eq_true rfl⟩ rfl (C_X2_frames _ mem ) ?_
  refine tr_istore_n (loc2 := [some (.inr 108), some (.inr 1), some (.inl (mem 1 2)), none, none, none]) hC dX3_lookAhead_4 rfl (by decide) rfl ?_
  refine tr_aload_n hC dX3_lookAhead_5 rfl rfl ?_
  refine tr_getr hC dX3_lookAhead_6 gf_X3_20 sh_108 rfl ?_
  refine tr_iload_n hC dX3_lookAhead_9 rfl rfl ?_
  obtain ⟨g1, h⟩ := h
  refine tr_aald hC dX3_lookAhead_10 sh_111 g1 ?_
  refine tr_ldc hC dX3_lookAhead_11 lc_X3_45 ?_
  obtain ⟨post13, hM13, h⟩ := h
  refine tr_cSv (As := [.inr (112 + (Int32.toNatClampNeg (mem 1 2))), .inl 1000000]) (fr2 := 0) (lo2 := 0) hC dX3_lookAhead_13 mc_X3_70 mst_J7_fill_53178 ⟨Nat.le_of_ble_eq_true rfl, Nat.le_of_ble_eq_true rfl, Nat.le_of_ble_eq_true rfl⟩ rfl hM13 (fun m13 hp13 => ?_)
  replace h := h m13 hp13
  refine tr_iload_n hC dX3_lookAhead_16 rfl rfl ?_
  refine tr_iconst (v := 1) hC dX3_lookAhead_17 (by decide) ?_
  refine tr_isub hC dX3_lookAhead_18 ?_
  refine tr_istore_n (loc2 := [some (.inr 108), some (.inr 1), some (.inl (mem 1 2)), some (.inl ((mem 1 2) - 1)), none, none]) hC dX3_lookAhead_19 rfl (by decide) rfl ?_
  exact h
set_option maxRecDepth 100000 in
theorem K_X3_lookAhead_20 {κ : TCx} {post0 : Option TV → TMem → Prop} (hC : TC κ RX3 cX3_lookAhead 6 2 50) (hT : TR κ none post0) (mem : TMem) (v2 : Int32) (v3 : Int32) (h : (v3 < 0 → post0 none mem) ∧ (¬ (v3 < 0) → (vp_in v3 41 ∧ (∃ post : TMem → Prop, TMv κ.1.2.1 i_J7_fill_53178 0 0 [.inr (112 + v3.toNatClampNeg), .inl 1000000] mem post ∧ ∀ (m32 : TMem), post m32 → (WT κ 38 [some (.inr 108), some (.inr 1), some (.inl v2), some (.inl v3), some (.inl 0), none] [] m32))))) : WT κ 20 [some (.inr 108), some (.inr 1), some (.inl v2), some (.inl v3), none, none] [] mem := by
  refine tr_iload_n hC dX3_lookAhead_20 rfl rfl ?_
  refine tr_if_lt hC dX3_lookAhead_21 (tgt := 127) rfl (fun c21 => ?_) (fun c21 => ?_)
  · replace h := h.1 c21
    exact tr_vret hC hT dX3_lookAhead_127 h
  · replace h := h.2 c21
    refine tr_aload_n hC dX3_lookAhead_24 rfl rfl ?_
    refine tr_getr hC dX3_lookAhead_25 gf_X3_20 sh_108 rfl ?_
    refine tr_iload_n hC dX3_lookAhead_28 rfl rfl ?_
    obtain ⟨g1, h⟩ := h
    refine tr_aald hC dX3_lookAhead_29 sh_111 g1 ?_
    refine tr_ldc hC dX3_lookAhead_30 lc_X3_45 ?_
    obtain ⟨post32, hM32, h⟩ := h
    refine tr_cSv (As := [.inr (112 + v3.toNatClampNeg), .inl 1000000]) (fr2 := 0) (lo2 := 0) hC dX3_lookAhead_32 mc_X3_70 mst_J7_fill_53178 ⟨Nat.le_of_ble_eq_true rfl, Nat.le_of_ble_eq_true rfl, Nat.le_of_ble_eq_true rfl⟩ rfl hM32 (fun m32 hp32 => ?_)
    replace h := h m32 hp32
    refine tr_iconst (v := 0) hC dX3_lookAhead_35 (by decide) ?_
    refine tr_istore (loc2 := [some (.inr 108), some (.inr 1), some (.inl v2), some (.inl v3), some (.inl 0), none]) hC dX3_lookAhead_36 (by decide) rfl ?_
    exact h
set_option maxRecDepth 100000 in
theorem K_X3_lookAhead_38 {κ : TCx} {post0 : Option TV → TMem → Prop} (hC : TC κ RX3 cX3_lookAhead 6 2 50) (hT : TR κ none post0) (mem : TMem) (v2 : Int32) (v3 : Int32) (v4 : Int32) (h : (((mem 108 4) * 8) ≤ v4 → (WT κ 20 [some (.inr 108), some (.inr 1), some (.inl v2), some (.inl (v3 + (-1))), none, none] [] mem)) ∧ (¬ (((mem 108 4) * 8) ≤ v4) → (vp_in v4 96 ∧ (((mem 109 v4.toNatClampNeg) = (-1) → (WT κ 38 [some (.inr 108), some (.inr 1), some (.inl v2), some (.inl v3), some (.inl (v4 + 1)), none] [] mem)) ∧ (¬ ((mem 109 v4.toNatClampNeg) = (-1)) → ((G_X3_goOn mem v4 (v3 + 1) v2) ∧ ((G_X3_stayOn v4 (v3 + 1)) ∧ (vp_in v3 41 ∧ (G_X2_costAt mem (mem 109 v4.toNatClampNeg) v3 ∧ (WT κ 38 [some (.inr 108), some (.inr 1), some (.inl v2), some (.inl v3), some (.inl (v4 + 1)), none] [] (mset mem (112 + v3.toNatClampNeg) v4.toNatClampNeg (imin 1000000 ((imin (F_X3_goOn mem v4 (v3 + 1) v2) ((mem (112 + (v3 + 1).toNatClampNeg) v4.toNatClampNeg) + (mem 1 3))) + (F_X2_costAt mem (mem 109 v4.toNatClampNeg) v3)))))))))))))) : WT κ 38 [some (.inr 108), some (.inr 1), some (.inl v2), some (.inl v3), some (.inl v4), none] [] mem := by
  refine tr_iload hC dX3_lookAhead_38 rfl ?_
  refine tr_aload_n hC dX3_lookAhead_40 rfl rfl ?_
  refine tr_gi (v := mem 108 4) hC dX3_lookAhead_41 gf_X3_26 sh_108 rfl rfl ?_
  refine tr_bipush (v := 8) hC dX3_lookAhead_44 (by decide) ?_
  refine tr_imul hC dX3_lookAhead_46 ?_
  refine tr_icmp_ge hC dX3_lookAhead_47 (tgt := 121) rfl (fun c47 => ?_) (fun c47 => ?_)
  · replace h := h.1 c47
    refine tr_iinc (v := v3 + (-1)) (loc2 := [some (.inr 108), some (.inr 1), some (.inl v2), some (.inl (v3 + (-1))), some (.inl v4), none]) hC dX3_lookAhead_121 rfl rfl (by decide) rfl ?_
    refine tr_goto hC dX3_lookAhead_124 (tgt := 20) rfl ?_
    exact tr_weak (tl_s (tl_s (tl_s (tl_s (tl_n (tl_n (tl_nil _))))))) h
  · replace h := h.2 c47
    refine tr_aload_n hC dX3_lookAhead_50 rfl rfl ?_
    refine tr_getr hC dX3_lookAhead_51 gf_X3_11 sh_108 rfl ?_
    refine tr_iload hC dX3_lookAhead_54 rfl ?_
    obtain ⟨g1, h⟩ := h
    refine tr_al (v := mem 109 v4.toNatClampNeg) hC dX3_lookAhead_56 sh_109 g1 rfl ?_
    refine tr_iconst (v := (-1)) hC dX3_lookAhead_57 (by decide) ?_
    refine tr_icmp_eq hC dX3_lookAhead_58 (tgt := 115) rfl (fun c58 => ?_) (fun c58 => ?_)
    · replace h := h.1 c58
      refine tr_iinc (v := v4 + 1) (loc2 := [some (.inr 108), some (.inr 1), some (.inl v2), some (.inl v3), some (.inl (v4 + 1)), none]) hC dX3_lookAhead_115 rfl rfl (by decide) rfl ?_
      refine tr_goto hC dX3_lookAhead_118 (tgt := 38) rfl ?_
      exact h
    · replace h := h.2 c58
      refine tr_aload_n hC dX3_lookAhead_61 rfl rfl ?_
      refine tr_iload hC dX3_lookAhead_62 rfl ?_
      refine tr_iload_n hC dX3_lookAhead_64 rfl rfl ?_
      refine tr_iconst (v := 1) hC dX3_lookAhead_65 (by decide) ?_
      refine tr_iadd hC dX3_lookAhead_66 ?_
      refine tr_iload_n hC dX3_lookAhead_67 rfl rfl ?_
      obtain ⟨g2, h⟩ := h
      refine tr_xVi (As := [.inl v4, .inl (v3 + 1), .inl v2]) (fr2 := 1) (lo2 := 24) hC dX3_lookAhead_68 mc_X3_86 mv_X3_goOn sh_108 rfl ⟨Nat.le_of_ble_eq_true rfl, Nat.le_of_ble_eq_true rfl, Nat.le_of_ble_eq_true rfl⟩ rfl (C_X3_goOn _ mem v4 (v3 + 1) v2 g2) ?_
      refine tr_aload_n hC dX3_lookAhead_71 rfl rfl ?_
      refine tr_aload_n hC dX3_lookAhead_72 rfl rfl ?_
      refine tr_iload hC dX3_lookAhead_73 rfl ?_
      refine tr_iload_n hC dX3_lookAhead_75 rfl rfl ?_
      refine tr_iconst (v := 1) hC dX3_lookAhead_76 (by decide) ?_
      refine tr_iadd hC dX3_lookAhead_77 ?_
      obtain ⟨g3, h⟩ := h
      refine tr_xVi (As := [.inr 1, .inl v4, .inl (v3 + 1)]) (fr2 := 1) (lo2 := 20) hC dX3_lookAhead_78 mc_X3_89 mv_X3_stayOn sh_108 rfl ⟨Nat.le_of_ble_eq_true rfl, Nat.le_of_ble_eq_true rfl, Nat.le_of_ble_eq_true rfl⟩ rfl (C_X3_stayOn _ mem v4 (v3 + 1) g3) ?_
      refine tr_min hC dX3_lookAhead_81 mm_X3_93 ⟨Nat.le_of_ble_eq_true rfl, Nat.le_of_ble_eq_true rfl⟩ ?_
      refine tr_istore (loc2 := [some (.inr 108), some (.inr 1), some (.inl v2), some (.inl v3), some (.inl v4), some (.inl (imin (F_X3_goOn mem v4 (v3 + 1) v2) ((mem (112 + (v3 + 1).toNatClampNeg) v4.toNatClampNeg) + (mem 1 3))))]) hC dX3_lookAhead_84 (by decide) rfl ?_
      refine tr_aload_n hC dX3_lookAhead_86 rfl rfl ?_
      refine tr_getr hC dX3_lookAhead_87 gf_X3_20 sh_108 rfl ?_
      refine tr_iload_n hC dX3_lookAhead_90 rfl rfl ?_
      obtain ⟨g4, h⟩ := h
      refine tr_aald hC dX3_lookAhead_91 sh_111 g4 ?_
      refine tr_iload hC dX3_lookAhead_92 rfl ?_
      refine tr_ldc hC dX3_lookAhead_94 lc_X3_45 ?_
      refine tr_iload hC dX3_lookAhead_96 rfl ?_
      refine tr_aload_n hC dX3_lookAhead_98 rfl rfl ?_
      refine tr_aload_n hC dX3_lookAhead_99 rfl rfl ?_
      refine tr_getr hC dX3_lookAhead_100 gf_X3_11 sh_108 rfl ?_
      refine tr_iload hC dX3_lookAhead_103 rfl ?_
      refine tr_al (v := mem 109 v4.toNatClampNeg) hC dX3_lookAhead_105 sh_109 g1 rfl ?_
      refine tr_iload_n hC dX3_lookAhead_106 rfl rfl ?_
      obtain ⟨g5, h⟩ := h
      refine tr_xVi (As := [.inl (mem 109 v4.toNatClampNeg), .inl v3]) (fr2 := 0) (lo2 := 0) hC dX3_lookAhead_107 mc_X3_98 mv_X2_costAt sh_1 rfl ⟨Nat.le_of_ble_eq_true rfl, Nat.le_of_ble_eq_true rfl, Nat.le_of_ble_eq_true rfl⟩ rfl (C_X2_costAt _ mem (mem 109 v4.toNatClampNeg) v3 g5) ?_
      refine tr_iadd hC dX3_lookAhead_110 ?_
      refine tr_min hC dX3_lookAhead_111 mm_X3_93 ⟨Nat.le_of_ble_eq_true rfl, Nat.le_of_ble_eq_true rfl⟩ ?_
      refine tr_iast hC dX3_lookAhead_114 (shr_111 _ (vp_lt g4)) g1 ?_
      refine tr_iinc (v := v4 + 1) (loc2 := [some (.inr 108), some (.inr 1), some (.inl v2), some (.inl v3), some (.inl (v4 + 1)), some (.inl (imin (F_X3_goOn mem v4 (v3 + 1) v2) ((mem (112 + (v3 + 1).toNatClampNeg) v4.toNatClampNeg) + (mem 1 3))))]) hC dX3_lookAhead_115 rfl rfl (by decide) rfl ?_
      refine tr_goto hC dX3_lookAhead_118 (tgt := 38) rfl ?_
      exact tr_weak (tl_s (tl_s (tl_s (tl_s (tl_s (tl_n (tl_nil _))))))) h
set_option maxRecDepth 100000 in
theorem K_X3_walk_0 {κ : TCx} {post0 : Option TV → TMem → Prop} (hC : TC κ RX3 cX3_walk 6 2 50) (hT : TR κ none post0) (mem : TMem) (h : G_X3_firstSlot 0 0 ∧ (WT κ 22 [some (.inr 108), some (.inr 1), some (.inl (mem 1 2)), some (.inl (F_X3_firstSlot mem 0 0)), some (.inl 1), none] [] (mset mem 153 0 (F_X3_firstSlot mem 0 0)))) : WT κ 0 [some (.inr 108), some (.inr 1), none, none, none, none] [] mem := by
  refine tr_aload_n hC dX3_walk_0 rfl rfl ?_
  refine tr_xVi (As := []) (fr2 := 0) (lo2 := 0) hC dX3_walk_1 mc_X3_40 mv_X2_frames sh_1 rfl ⟨Nat.le_of_ble_eq_true rfl, Nat.le_of_ble_eq_true rfl, Nat.le_of_ble_eq_true rfl⟩ rfl (C_X2_frames _ mem ) ?_
  refine tr_istore_n (loc2 := [some (.inr 108), some (.inr 1), some (.inl (mem 1 2)), none, none, none]) hC dX3_walk_4 rfl (by decide) rfl ?_
  refine tr_aload_n hC dX3_walk_5 rfl rfl ?_
  refine tr_iconst (v := 0) hC dX3_walk_6 (by decide) ?_
  refine tr_iconst (v := 0) hC dX3_walk_7 (by decide) ?_
  obtain ⟨g1, h⟩ := h
  refine tr_xVi (As := [.inl 0, .inl 0]) (fr2 := 0) (lo2 := 0) hC dX3_walk_8 mc_X3_64 mv_X3_firstSlot sh_108 rfl ⟨Nat.le_of_ble_eq_true rfl, Nat.le_of_ble_eq_true rfl, Nat.le_of_ble_eq_true rfl⟩ rfl (C_X3_firstSlot _ mem 0 0 g1) ?_
  refine tr_istore_n (loc2 := [some (.inr 108), some (.inr 1), some (.inl (mem 1 2)), some (.inl (F_X3_firstSlot mem 0 0)), none, none]) hC dX3_walk_11 rfl (by decide) rfl ?_
  refine tr_aload_n hC dX3_walk_12 rfl rfl ?_
  refine tr_getr hC dX3_walk_13 gf_X3_23 sh_108 rfl ?_
  refine tr_iconst (v := 0) hC dX3_walk_16 (by decide) ?_
  refine tr_iload_n hC dX3_walk_17 rfl rfl ?_
  refine tr_iast hC dX3_walk_18 sh_153 (by unfold vp_in; decide) ?_
  refine tr_iconst (v := 1) hC dX3_walk_19 (by decide) ?_
  refine tr_istore (loc2 := [some (.inr 108), some (.inr 1), some (.inl (mem 1 2)), some (.inl (F_X3_firstSlot mem 0 0)), some (.inl 1), none]) hC dX3_walk_20 (by decide) rfl ?_
  exact h
set_option maxRecDepth 100000 in
theorem K_X3_walk_22 {κ : TCx} {post0 : Option TV → TMem → Prop} (hC : TC κ RX3 cX3_walk 6 2 50) (hT : TR κ none post0) (mem : TMem) (v2 : Int32) (v3 : Int32) (v4 : Int32) (h : (v2 ≤ v4 → post0 none mem) ∧ (¬ (v2 ≤ v4) → (G_X3_goOn mem v3 v4 v2 ∧ ((1000000 ≤ (F_X3_goOn mem v3 v4 v2) → (vp_in v4 40 ∧ (WT κ 22 [some (.inr 108), some (.inr 1), some (.inl v2), some (.inl v3), some (.inl (v4 + 1)), none] [] (mset mem 153 v4.toNatClampNeg v3)))) ∧ (¬ (1000000 ≤ (F_X3_goOn mem v3 v4 v2)) → (G_X3_stayOn v3 v4 ∧ ((((mem (112 + v4.toNatClampNeg) v3.toNatClampNeg) + (mem 1 3)) < (F_X3_goOn mem v3 v4 v2) → (vp_in v4 40 ∧ (WT κ 22 [some (.inr 108), some (.inr 1), some (.inl v2), some (.inl v3), some (.inl (v4 + 1)), none] [] (mset mem 153 v4.toNatClampNeg v3)))) ∧ (¬ (((mem (112 + v4.toNatClampNeg) v3.toNatClampNeg) + (mem 1 3)) < (F_X3_goOn mem v3 v4 v2)) → (G_X3_hasSoundBehind v3 ∧ (((F_X3_hasSoundBehind mem v3) = 0 → ((G_X3_firstSlot ((v3 / 8) + 1) v4) ∧ (vp_in v4 40 ∧ (WT κ 22 [some (.inr 108), some (.inr 1), some (.inl v2), some (.inl (F_X3_firstSlot mem ((v3 / 8) + 1) v4)), some (.inl (v4 + 1)), none] [] (mset mem 153 v4.toNatClampNeg (F_X3_firstSlot mem ((v3 / 8) + 1) v4)))))) ∧ (¬ ((F_X3_hasSoundBehind mem v3) = 0) → (vp_in v4 40 ∧ (WT κ 22 [some (.inr 108), some (.inr 1), some (.inl v2), some (.inl (v3 + 1)), some (.inl (v4 + 1)), none] [] (mset mem 153 v4.toNatClampNeg (v3 + 1))))))))))))))) : WT κ 22 [some (.inr 108), some (.inr 1), some (.inl v2), some (.inl v3), some (.inl v4), none] [] mem := by
  refine tr_iload hC dX3_walk_22 rfl ?_
  refine tr_iload_n hC dX3_walk_24 rfl rfl ?_
  refine tr_icmp_ge hC dX3_walk_25 (tgt := 99) rfl (fun c25 => ?_) (fun c25 => ?_)
  · replace h := h.1 c25
    exact tr_vret hC hT dX3_walk_99 h
  · replace h := h.2 c25
    refine tr_aload_n hC dX3_walk_28 rfl rfl ?_
    refine tr_iload_n hC dX3_walk_29 rfl rfl ?_
    refine tr_iload hC dX3_walk_30 rfl ?_
    refine tr_iload_n hC dX3_walk_32 rfl rfl ?_
    obtain ⟨g1, h⟩ := h
    refine tr_xVi (As := [.inl v3, .inl v4, .inl v2]) (fr2 := 1) (lo2 := 24) hC dX3_walk_33 mc_X3_86 mv_X3_goOn sh_108 rfl ⟨Nat.le_of_ble_eq_true rfl, Nat.le_of_ble_eq_true rfl, Nat.le_of_ble_eq_true rfl⟩ rfl (C_X3_goOn _ mem v3 v4 v2 g1) ?_
    refine tr_istore (loc2 := [some (.inr 108), some (.inr 1), some (.inl v2), some (.inl v3), some (.inl v4), some (.inl (F_X3_goOn mem v3 v4 v2))]) hC dX3_walk_36 (by decide) rfl ?_
    refine tr_iload hC dX3_walk_38 rfl ?_
    refine tr_ldc hC dX3_walk_40 lc_X3_45 ?_
    refine tr_icmp_ge hC dX3_walk_42 (tgt := 85) rfl (fun c42 => ?_) (fun c42 => ?_)
    · replace h := h.1 c42
      refine tr_aload_n hC dX3_walk_85 rfl rfl ?_
      refine tr_getr hC dX3_walk_86 gf_X3_23 sh_108 rfl ?_
      refine tr_iload hC dX3_walk_89 rfl ?_
      refine tr_iload_n hC dX3_walk_91 rfl rfl ?_
      obtain ⟨g2, h⟩ := h
      refine tr_iast hC dX3_walk_92 sh_153 g2 ?_
      refine tr_iinc (v := v4 + 1) (loc2 := [some (.inr 108), some (.inr 1), some (.inl v2), some (.inl v3), some (.inl (v4 + 1)), some (.inl (F_X3_goOn mem v3 v4 v2))]) hC dX3_walk_93 rfl rfl (by decide) rfl ?_
      refine tr_goto hC dX3_walk_96 (tgt := 22) rfl ?_
      exact tr_weak (tl_s (tl_s (tl_s (tl_s (tl_s (tl_n (tl_nil _))))))) h
    · replace h := h.2 c42
      refine tr_iload hC dX3_walk_45 rfl ?_
      refine tr_aload_n hC dX3_walk_47 rfl rfl ?_
      refine tr_aload_n hC dX3_walk_48 rfl rfl ?_
      refine tr_iload_n hC dX3_walk_49 rfl rfl ?_
      refine tr_iload hC dX3_walk_50 rfl ?_
      obtain ⟨g3, h⟩ := h
      refine tr_xVi (As := [.inr 1, .inl v3, .inl v4]) (fr2 := 1) (lo2 := 20) hC dX3_walk_52 mc_X3_89 mv_X3_stayOn sh_108 rfl ⟨Nat.le_of_ble_eq_true rfl, Nat.le_of_ble_eq_true rfl, Nat.le_of_ble_eq_true rfl⟩ rfl (C_X3_stayOn _ mem v3 v4 g3) ?_
      refine tr_icmp_gt hC dX3_walk_55 (tgt := 85) rfl (fun c55 => ?_) (fun c55 => ?_)
      · replace h := h.1 c55
        refine tr_aload_n hC dX3_walk_85 rfl rfl ?_
        refine tr_getr hC dX3_walk_86 gf_X3_23 sh_108 rfl ?_
        refine tr_iload hC dX3_walk_89 rfl ?_
        refine tr_iload_n hC dX3_walk_91 rfl rfl ?_
        obtain ⟨g4, h⟩ := h
        refine tr_iast hC dX3_walk_92 sh_153 g4 ?_
        refine tr_iinc (v := v4 + 1) (loc2 := [some (.inr 108), some (.inr 1), some (.inl v2), some (.inl v3), some (.inl (v4 + 1)), some (.inl (F_X3_goOn mem v3 v4 v2))]) hC dX3_walk_93 rfl rfl (by decide) rfl ?_
        refine tr_goto hC dX3_walk_96 (tgt := 22) rfl ?_
        exact tr_weak (tl_s (tl_s (tl_s (tl_s (tl_s (tl_n (tl_nil _))))))) h
      · replace h := h.2 c55
        refine tr_aload_n hC dX3_walk_58 rfl rfl ?_
        refine tr_iload_n hC dX3_walk_59 rfl rfl ?_
        obtain ⟨g5, h⟩ := h
        refine tr_xVi (As := [.inl v3]) (fr2 := 0) (lo2 := 0) hC dX3_walk_60 mc_X3_104 mv_X3_hasSoundBehind sh_108 rfl ⟨Nat.le_of_ble_eq_true rfl, Nat.le_of_ble_eq_true rfl, Nat.le_of_ble_eq_true rfl⟩ rfl (C_X3_hasSoundBehind _ mem v3 g5) ?_
        refine tr_if_eq hC dX3_walk_63 (tgt := 72) rfl (fun c63 => ?_) (fun c63 => ?_)
        · replace h := h.1 c63
          refine tr_aload_n hC dX3_walk_72 rfl rfl ?_
          refine tr_iload_n hC dX3_walk_73 rfl rfl ?_
          refine tr_bipush (v := 8) hC dX3_walk_74 (by decide) ?_
          refine tr_idiv hC dX3_walk_76 (by decide) ?_
          refine tr_iconst (v := 1) hC dX3_walk_77 (by decide) ?_
          refine tr_iadd hC dX3_walk_78 ?_
          refine tr_iload hC dX3_walk_79 rfl ?_
          obtain ⟨g6, h⟩ := h
          refine tr_xVi (As := [.inl ((v3 / 8) + 1), .inl v4]) (fr2 := 0) (lo2 := 0) hC dX3_walk_81 mc_X3_64 mv_X3_firstSlot sh_108 rfl ⟨Nat.le_of_ble_eq_true rfl, Nat.le_of_ble_eq_true rfl, Nat.le_of_ble_eq_true rfl⟩ rfl (C_X3_firstSlot _ mem ((v3 / 8) + 1) v4 g6) ?_
          refine tr_istore_n (loc2 := [some (.inr 108), some (.inr 1), some (.inl v2), some (.inl (F_X3_firstSlot mem ((v3 / 8) + 1) v4)), some (.inl v4), some (.inl (F_X3_goOn mem v3 v4 v2))]) hC dX3_walk_84 rfl (by decide) rfl ?_
          refine tr_aload_n hC dX3_walk_85 rfl rfl ?_
          refine tr_getr hC dX3_walk_86 gf_X3_23 sh_108 rfl ?_
          refine tr_iload hC dX3_walk_89 rfl ?_
          refine tr_iload_n hC dX3_walk_91 rfl rfl ?_
          obtain ⟨g7, h⟩ := h
          refine tr_iast hC dX3_walk_92 sh_153 g7 ?_
          refine tr_iinc (v := v4 + 1) (loc2 := [some (.inr 108), some (.inr 1), some (.inl v2), some (.inl (F_X3_firstSlot mem ((v3 / 8) + 1) v4)), some (.inl (v4 + 1)), some (.inl (F_X3_goOn mem v3 v4 v2))]) hC dX3_walk_93 rfl rfl (by decide) rfl ?_
          refine tr_goto hC dX3_walk_96 (tgt := 22) rfl ?_
          exact tr_weak (tl_s (tl_s (tl_s (tl_s (tl_s (tl_n (tl_nil _))))))) h
        · replace h := h.2 c63
          refine tr_iload_n hC dX3_walk_66 rfl rfl ?_
          refine tr_iconst (v := 1) hC dX3_walk_67 (by decide) ?_
          refine tr_iadd hC dX3_walk_68 ?_
          refine tr_goto hC dX3_walk_69 (tgt := 84) rfl ?_
          refine tr_istore_n (loc2 := [some (.inr 108), some (.inr 1), some (.inl v2), some (.inl (v3 + 1)), some (.inl v4), some (.inl (F_X3_goOn mem v3 v4 v2))]) hC dX3_walk_84 rfl (by decide) rfl ?_
          refine tr_aload_n hC dX3_walk_85 rfl rfl ?_
          refine tr_getr hC dX3_walk_86 gf_X3_23 sh_108 rfl ?_
          refine tr_iload hC dX3_walk_89 rfl ?_
          refine tr_iload_n hC dX3_walk_91 rfl rfl ?_
          obtain ⟨g8, h⟩ := h
          refine tr_iast hC dX3_walk_92 sh_153 g8 ?_
          refine tr_iinc (v := v4 + 1) (loc2 := [some (.inr 108), some (.inr 1), some (.inl v2), some (.inl (v3 + 1)), some (.inl (v4 + 1)), some (.inl (F_X3_goOn mem v3 v4 v2))]) hC dX3_walk_93 rfl rfl (by decide) rfl ?_
          refine tr_goto hC dX3_walk_96 (tgt := 22) rfl ?_
          exact tr_weak (tl_s (tl_s (tl_s (tl_s (tl_s (tl_n (tl_nil _))))))) h
set_option maxRecDepth 100000 in
theorem K_X3_find_0 {κ : TCx} {post0 : Option TV → TMem → Prop} (hC : TC κ RX3 cX3_find 5 3 75) (hT : TR κ (some .int) post0) (mem : TMem) (h : ((mem 106 1) = 0 → post0 (some (.inl 1000000)) (mset mem 108 5 0)) ∧ (¬ ((mem 106 1) = 0) → (((mem 1 2) = 0 → post0 (some (.inl 1000000)) (mset mem 108 5 0)) ∧ (¬ ((mem 1 2) = 0) → (∃ post : TMem → Prop, TMv κ.1.2.1 i_X3_takeRow 2 45 [.inr 108, .inr 10, .inr 106] (mset mem 108 5 0) post ∧ ∀ (m25 : TMem), post m25 → (∃ post : TMem → Prop, TMv κ.1.2.1 i_X3_lookAhead 2 50 [.inr 108, .inr 1] m25 post ∧ ∀ (m30 : TMem), post m30 → (G_X7_at_106 m30 0 ∧ ((G_X5_joint (-1) (F_X7_at_106 m30 0)) ∧ (G_X3_firstSlot 0 0 ∧ (vp_in (F_X3_firstSlot m30 0 0) 96 ∧ ((1000000 ≤ ((F_X5_joint m30 (-1) (F_X7_at_106 m30 0)) + (m30 112 (Int32.toNatClampNeg (F_X3_firstSlot m30 0 0)))) → (post0 (some (.inl ((F_X5_joint m30 (-1) (F_X7_at_106 m30 0)) + (m30 112 (Int32.toNatClampNeg (F_X3_firstSlot m30 0 0)))))) m30)) ∧ (¬ (1000000 ≤ ((F_X5_joint m30 (-1) (F_X7_at_106 m30 0)) + (m30 112 (Int32.toNatClampNeg (F_X3_firstSlot m30 0 0))))) → (∃ post : TMem → Prop, TMv κ.1.2.1 i_X3_walk 2 50 [.inr 108, .inr 1] m30 post ∧ ∀ (m68 : TMem), post m68 → (post0 (some (.inl ((F_X5_joint m30 (-1) (F_X7_at_106 m30 0)) + (m30 112 (Int32.toNatClampNeg (F_X3_firstSlot m30 0 0)))))) (mset m68 108 5 1))))))))))))))) : WT κ 0 [some (.inr 108), some (.inr 1), some (.inr 10), some (.inr 106), none] [] mem := by
  refine tr_aload_n hC dX3_find_0 rfl rfl ?_
  refine tr_iconst (v := 0) hC dX3_find_1 (by decide) ?_
  refine tr_puti hC dX3_find_2 gp_X3_30 sh_108 rfl (by decide) (by decide) ?_
  refine tr_aload_n hC dX3_find_5 rfl rfl ?_
  refine tr_xVi (As := []) (fr2 := 0) (lo2 := 0) hC dX3_find_6 mc_X3_34 mv_X7_size sh_106 rfl ⟨Nat.le_of_ble_eq_true rfl, Nat.le_of_ble_eq_true rfl, Nat.le_of_ble_eq_true rfl⟩ rfl (tmi_v (C_X7_size_106 _ (mset mem 108 5 0) ) (ms_ne (by decide))) ?_
  refine tr_if_eq hC dX3_find_9 (tgt := 19) rfl (fun c9 => ?_) (fun c9 => ?_)
  · replace h := h.1 c9
    refine tr_ldc hC dX3_find_19 lc_X3_45 ?_
    exact tr_iret hC hT dX3_find_21 h
  · replace h := h.2 c9
    refine tr_aload_n hC dX3_find_12 rfl rfl ?_
    refine tr_xVi (As := []) (fr2 := 0) (lo2 := 0) hC dX3_find_13 mc_X3_40 mv_X2_frames sh_1 rfl ⟨Nat.le_of_ble_eq_true rfl, Nat.le_of_ble_eq_true rfl, Nat.le_of_ble_eq_true rfl⟩ rfl (tmi_v (C_X2_frames _ (mset mem 108 5 0) ) (ms_ne (by decide))) ?_
    refine tr_if_ne hC dX3_find_16 (tgt := 22) rfl (fun c16 => ?_) (fun c16 => ?_)
    · replace h := h.2 c16
      refine tr_aload_n hC dX3_find_22 rfl rfl ?_
      refine tr_aload_n hC dX3_find_23 rfl rfl ?_
      refine tr_aload_n hC dX3_find_24 rfl rfl ?_
      obtain ⟨post25, hM25, h⟩ := h
      refine tr_cVv (As := [.inr 10, .inr 106]) (fr2 := 2) (lo2 := 45) hC dX3_find_25 mc_X3_46 mv_X3_takeRow sh_108 rfl ⟨Nat.le_of_ble_eq_true rfl, Nat.le_of_ble_eq_true rfl, Nat.le_of_ble_eq_true rfl⟩ rfl hM25 (fun m25 hp25 => ?_)
      replace h := h m25 hp25
      refine tr_aload_n hC dX3_find_28 rfl rfl ?_
      refine tr_aload_n hC dX3_find_29 rfl rfl ?_
      obtain ⟨post30, hM30, h⟩ := h
      refine tr_cVv (As := [.inr 1]) (fr2 := 2) (lo2 := 50) hC dX3_find_30 mc_X3_50 mv_X3_lookAhead sh_108 rfl ⟨Nat.le_of_ble_eq_true rfl, Nat.le_of_ble_eq_true rfl, Nat.le_of_ble_eq_true rfl⟩ rfl hM30 (fun m30 hp30 => ?_)
      replace h := h m30 hp30
      refine tr_aload_n hC dX3_find_33 rfl rfl ?_
      refine tr_iconst (v := (-1)) hC dX3_find_34 (by decide) ?_
      refine tr_aload_n hC dX3_find_35 rfl rfl ?_
      refine tr_iconst (v := 0) hC dX3_find_36 (by decide) ?_
      obtain ⟨g1, h⟩ := h
      refine tr_xVi (As := [.inl 0]) (fr2 := 0) (lo2 := 0) hC dX3_find_37 mc_X3_54 mv_X7_at sh_106 rfl ⟨Nat.le_of_ble_eq_true rfl, Nat.le_of_ble_eq_true rfl, Nat.le_of_ble_eq_true rfl⟩ rfl (C_X7_at_106 _ m30 0 g1) ?_
      obtain ⟨g2, h⟩ := h
      refine tr_xVi (As := [.inl (-1), .inl (F_X7_at_106 m30 0)]) (fr2 := 1) (lo2 := 22) hC dX3_find_40 mc_X3_58 mv_X5_joint sh_10 rfl ⟨Nat.le_of_ble_eq_true rfl, Nat.le_of_ble_eq_true rfl, Nat.le_of_ble_eq_true rfl⟩ rfl (C_X5_joint _ m30 (-1) (F_X7_at_106 m30 0) g2) ?_
      refine tr_aload_n hC dX3_find_43 rfl rfl ?_
      refine tr_getr hC dX3_find_44 gf_X3_20 sh_108 rfl ?_
      refine tr_iconst (v := 0) hC dX3_find_47 (by decide) ?_
      refine tr_aald hC dX3_find_48 sh_111 (by unfold vp_in; decide) ?_
      refine tr_aload_n hC dX3_find_49 rfl rfl ?_
      refine tr_iconst (v := 0) hC dX3_find_50 (by decide) ?_
      refine tr_iconst (v := 0) hC dX3_find_51 (by decide) ?_
      obtain ⟨g3, h⟩ := h
      refine tr_xVi (As := [.inl 0, .inl 0]) (fr2 := 0) (lo2 := 0) hC dX3_find_52 mc_X3_64 mv_X3_firstSlot sh_108 rfl ⟨Nat.le_of_ble_eq_true rfl, Nat.le_of_ble_eq_true rfl, Nat.le_of_ble_eq_true rfl⟩ rfl (C_X3_firstSlot _ m30 0 0 g3) ?_
      obtain ⟨g4, h⟩ := h
      refine tr_al (v := m30 112 (Int32.toNatClampNeg (F_X3_firstSlot m30 0 0))) hC dX3_find_55 sh_112 g4 rfl ?_
      refine tr_iadd hC dX3_find_56 ?_
      refine tr_istore (loc2 := [some (.inr 108), some (.inr 1), some (.inr 10), some (.inr 106), some (.inl ((F_X5_joint m30 (-1) (F_X7_at_106 m30 0)) + (m30 112 (Int32.toNatClampNeg (F_X3_firstSlot m30 0 0)))))]) hC dX3_find_57 (by decide) rfl ?_
      refine tr_iload hC dX3_find_59 rfl ?_
      refine tr_ldc hC dX3_find_61 lc_X3_45 ?_
      refine tr_icmp_ge hC dX3_find_63 (tgt := 76) rfl (fun c63 => ?_) (fun c63 => ?_)
      · replace h := h.1 c63
        refine tr_iload hC dX3_find_76 rfl ?_
        exact tr_iret hC hT dX3_find_78 h
      · replace h := h.2 c63
        refine tr_aload_n hC dX3_find_66 rfl rfl ?_
        refine tr_aload_n hC dX3_find_67 rfl rfl ?_
        obtain ⟨post68, hM68, h⟩ := h
        refine tr_cVv (As := [.inr 1]) (fr2 := 2) (lo2 := 50) hC dX3_find_68 mc_X3_67 mv_X3_walk sh_108 rfl ⟨Nat.le_of_ble_eq_true rfl, Nat.le_of_ble_eq_true rfl, Nat.le_of_ble_eq_true rfl⟩ rfl hM68 (fun m68 hp68 => ?_)
        replace h := h m68 hp68
        refine tr_aload_n hC dX3_find_71 rfl rfl ?_
        refine tr_iconst (v := 1) hC dX3_find_72 (by decide) ?_
        refine tr_puti hC dX3_find_73 gp_X3_30 sh_108 rfl (by decide) (by decide) ?_
        refine tr_iload hC dX3_find_76 rfl ?_
        exact tr_iret hC hT dX3_find_78 h
    · replace h := h.1 c16
      refine tr_ldc hC dX3_find_19 lc_X3_45 ?_
      exact tr_iret hC hT dX3_find_21 h
set_option maxRecDepth 100000 in
theorem K_X10_lay_0 {κ : TCx} {post0 : Option TV → TMem → Prop} (hC : TC κ RX10 cX10_lay 2 4 99) (hT : TR κ (some .int) post0) (mem : TMem) (h : ∃ post : Int32 → TMem → Prop, TMi κ.1.2.1 i_X3_find 3 75 [.inr 108, .inr 1, .inr 10, .inr 106] mem post ∧ ∀ (x16 : Int32) (m16 : TMem), post x16 m16 → ((1000000 ≤ x16 → (post0 (some (.inl (-3))) m16)) ∧ (¬ (1000000 ≤ x16) → post0 (some (.inl x16)) m16))) : WT κ 0 [some (.inr 0), none] [] mem := by
  refine tr_aload_n hC dX10_lay_0 rfl rfl ?_
  refine tr_getr hC dX10_lay_1 gf_X10_42 sh_0 rfl ?_
  refine tr_aload_n hC dX10_lay_4 rfl rfl ?_
  refine tr_getr hC dX10_lay_5 gf_X10_10 sh_0 rfl ?_
  refine tr_aload_n hC dX10_lay_8 rfl rfl ?_
  refine tr_getr hC dX10_lay_9 gf_X10_19 sh_0 rfl ?_
  refine tr_aload_n hC dX10_lay_12 rfl rfl ?_
  refine tr_getr hC dX10_lay_13 gf_X10_35 sh_0 rfl ?_
  obtain ⟨post16, hM16, h⟩ := h
  refine tr_cVi (As := [.inr 1, .inr 10, .inr 106]) (fr2 := 3) (lo2 := 75) hC dX10_lay_16 mc_X10_169 mv_X3_find sh_108 rfl ⟨Nat.le_of_ble_eq_true rfl, Nat.le_of_ble_eq_true rfl, Nat.le_of_ble_eq_true rfl⟩ rfl hM16 (fun x16 m16 hp16 => ?_)
  replace h := h x16 m16 hp16
  refine tr_istore_n (loc2 := [some (.inr 0), some (.inl x16)]) hC dX10_lay_19 rfl (by decide) rfl ?_
  refine tr_iload_n hC dX10_lay_20 rfl rfl ?_
  refine tr_ldc hC dX10_lay_21 lc_X10_163 ?_
  refine tr_icmp_ge hC dX10_lay_23 (tgt := 30) rfl (fun c23 => ?_) (fun c23 => ?_)
  · replace h := h.1 c23
    refine tr_bipush (v := (-3)) hC dX10_lay_30 (by decide) ?_
    exact tr_iret hC hT dX10_lay_32 h
  · replace h := h.2 c23
    refine tr_iload_n hC dX10_lay_26 rfl rfl ?_
    refine tr_goto hC dX10_lay_27 (tgt := 32) rfl ?_
    exact tr_iret hC hT dX10_lay_32 h
set_option maxRecDepth 100000 in
theorem K_X1_fewest_0 {κ : TCx} {post0 : Option TV → TMem → Prop} (hC : TC κ RX1 cX1_fewest 8 1 21) (hT : TR κ (some .int) post0) (mem : TMem) (h : WT κ 13 [some (.inr 154), some (.inr 106), some (.inr 104), some (.inl (imin (mem 104 1) 40)), some (.inl 0), none, none, none] [] mem) : WT κ 0 [some (.inr 154), some (.inr 106), some (.inr 104), none, none, none, none, none] [] mem := by
  refine tr_aload_n hC dX1_fewest_0 rfl rfl ?_
  refine tr_xVi (As := []) (fr2 := 0) (lo2 := 0) hC dX1_fewest_1 mc_X1_15 mv_X7_size sh_104 rfl ⟨Nat.le_of_ble_eq_true rfl, Nat.le_of_ble_eq_true rfl, Nat.le_of_ble_eq_true rfl⟩ rfl (C_X7_size_104 _ mem ) ?_
  refine tr_bipush (v := 40) hC dX1_fewest_4 (by decide) ?_
  refine tr_min hC dX1_fewest_6 mm_X1_21 ⟨Nat.le_of_ble_eq_true rfl, Nat.le_of_ble_eq_true rfl⟩ ?_
  refine tr_istore_n (loc2 := [some (.inr 154), some (.inr 106), some (.inr 104), some (.inl (imin (mem 104 1) 40)), none, none, none, none]) hC dX1_fewest_9 rfl (by decide) rfl ?_
  refine tr_iconst (v := 0) hC dX1_fewest_10 (by decide) ?_
  refine tr_istore (loc2 := [some (.inr 154), some (.inr 106), some (.inr 104), some (.inl (imin (mem 104 1) 40)), some (.inl 0), none, none, none]) hC dX1_fewest_11 (by decide) rfl ?_
  exact h
set_option maxRecDepth 100000 in
theorem K_X1_fewest_13 {κ : TCx} {post0 : Option TV → TMem → Prop} (hC : TC κ RX1 cX1_fewest 8 1 21) (hT : TR κ (some .int) post0) (mem : TMem) (v3 : Int32) (v4 : Int32) (h : (v3 < v4 → (WT κ 37 [some (.inr 154), some (.inr 106), some (.inr 104), some (.inl v3), some (.inl 1), none, none, none] [] mem)) ∧ (¬ (v3 < v4) → (vp_in v4 41 ∧ (WT κ 13 [some (.inr 154), some (.inr 106), some (.inr 104), some (.inl v3), some (.inl (v4 + 1)), none, none, none] [] (mset mem 155 v4.toNatClampNeg v4))))) : WT κ 13 [some (.inr 154), some (.inr 106), some (.inr 104), some (.inl v3), some (.inl v4), none, none, none] [] mem := by
  refine tr_iload hC dX1_fewest_13 rfl ?_
  refine tr_iload_n hC dX1_fewest_15 rfl rfl ?_
  refine tr_icmp_gt hC dX1_fewest_16 (tgt := 34) rfl (fun c16 => ?_) (fun c16 => ?_)
  · replace h := h.1 c16
    refine tr_iconst (v := 1) hC dX1_fewest_34 (by decide) ?_
    refine tr_istore (loc2 := [some (.inr 154), some (.inr 106), some (.inr 104), some (.inl v3), some (.inl 1), none, none, none]) hC dX1_fewest_35 (by decide) rfl ?_
    exact h
  · replace h := h.2 c16
    refine tr_aload_n hC dX1_fewest_19 rfl rfl ?_
    refine tr_getr hC dX1_fewest_20 gf_X1_9 sh_154 rfl ?_
    refine tr_iload hC dX1_fewest_23 rfl ?_
    refine tr_iload hC dX1_fewest_25 rfl ?_
    obtain ⟨g1, h⟩ := h
    refine tr_iast hC dX1_fewest_27 sh_155 g1 ?_
    refine tr_iinc (v := v4 + 1) (loc2 := [some (.inr 154), some (.inr 106), some (.inr 104), some (.inl v3), some (.inl (v4 + 1)), none, none, none]) hC dX1_fewest_28 rfl rfl (by decide) rfl ?_
    refine tr_goto hC dX1_fewest_31 (tgt := 13) rfl ?_
    exact h
set_option maxRecDepth 100000 in
theorem K_X1_fewest_37 {κ : TCx} {post0 : Option TV → TMem → Prop} (hC : TC κ RX1 cX1_fewest 8 1 21) (hT : TR κ (some .int) post0) (mem : TMem) (v3 : Int32) (v4 : Int32) (h : ((mem 106 1) < v4 → (vp_in v3 41 ∧ (post0 (some (.inl (mem 155 v3.toNatClampNeg))) mem))) ∧ (¬ ((mem 106 1) < v4) → (WT κ 65 [some (.inr 154), some (.inr 106), some (.inr 104), some (.inl v3), some (.inl v4), some (.inl (mem 155 0)), some (.inl 1), none] [] (mset mem 155 0 v4)))) : WT κ 37 [some (.inr 154), some (.inr 106), some (.inr 104), some (.inl v3), some (.inl v4), none, none, none] [] mem := by
  refine tr_iload hC dX1_fewest_37 rfl ?_
  refine tr_aload_n hC dX1_fewest_39 rfl rfl ?_
  refine tr_xVi (As := []) (fr2 := 0) (lo2 := 0) hC dX1_fewest_40 mc_X1_15 mv_X7_size sh_106 rfl ⟨Nat.le_of_ble_eq_true rfl, Nat.le_of_ble_eq_true rfl, Nat.le_of_ble_eq_true rfl⟩ rfl (C_X7_size_106 _ mem ) ?_
  refine tr_icmp_gt hC dX1_fewest_43 (tgt := 155) rfl (fun c43 => ?_) (fun c43 => ?_)
  · replace h := h.1 c43
    refine tr_aload_n hC dX1_fewest_155 rfl rfl ?_
    refine tr_getr hC dX1_fewest_156 gf_X1_9 sh_154 rfl ?_
    refine tr_iload_n hC dX1_fewest_159 rfl rfl ?_
    obtain ⟨g1, h⟩ := h
    refine tr_al (v := mem 155 v3.toNatClampNeg) hC dX1_fewest_160 sh_155 g1 rfl ?_
    exact tr_iret hC hT dX1_fewest_161 h
  · replace h := h.2 c43
    refine tr_aload_n hC dX1_fewest_46 rfl rfl ?_
    refine tr_getr hC dX1_fewest_47 gf_X1_9 sh_154 rfl ?_
    refine tr_iconst (v := 0) hC dX1_fewest_50 (by decide) ?_
    refine tr_al (v := mem 155 0) hC dX1_fewest_51 sh_155 (by unfold vp_in; decide) rfl ?_
    refine tr_istore (loc2 := [some (.inr 154), some (.inr 106), some (.inr 104), some (.inl v3), some (.inl v4), some (.inl (mem 155 0)), none, none]) hC dX1_fewest_52 (by decide) rfl ?_
    refine tr_aload_n hC dX1_fewest_54 rfl rfl ?_
    refine tr_getr hC dX1_fewest_55 gf_X1_9 sh_154 rfl ?_
    refine tr_iconst (v := 0) hC dX1_fewest_58 (by decide) ?_
    refine tr_iload hC dX1_fewest_59 rfl ?_
    refine tr_iast hC dX1_fewest_61 sh_155 (by unfold vp_in; decide) ?_
    refine tr_iconst (v := 1) hC dX1_fewest_62 (by decide) ?_
    refine tr_istore (loc2 := [some (.inr 154), some (.inr 106), some (.inr 104), some (.inl v3), some (.inl v4), some (.inl (mem 155 0)), some (.inl 1), none]) hC dX1_fewest_63 (by decide) rfl ?_
    exact h
set_option maxRecDepth 100000 in
theorem K_X1_fewest_65 {κ : TCx} {post0 : Option TV → TMem → Prop} (hC : TC κ RX1 cX1_fewest 8 1 21) (hT : TR κ (some .int) post0) (mem : TMem) (v3 : Int32) (v4 : Int32) (v5 : Int32) (v6 : Int32) (h : (v3 < v6 → (WT κ 37 [some (.inr 154), some (.inr 106), some (.inr 104), some (.inl v3), some (.inl (v4 + 1)), none, none, none] [] mem)) ∧ (¬ (v3 < v6) → ((G_X7_at_106 mem (v4 - 1)) ∧ ((G_X7_at_104 mem (v6 - 1)) ∧ (((F_X7_at_106 mem (v4 - 1)) = (F_X7_at_104 mem (v6 - 1)) → (vp_in v6 41 ∧ ((vp_in (v6 - 1) 41) ∧ (WT κ 65 [some (.inr 154), some (.inr 106), some (.inr 104), some (.inl v3), some (.inl v4), some (.inl (mem 155 v6.toNatClampNeg)), some (.inl (v6 + 1)), none] [] (mset mem 155 v6.toNatClampNeg (imin v5 (1 + (imin (mem 155 v6.toNatClampNeg) (mem 155 (Int32.toNatClampNeg (v6 - 1))))))))))) ∧ (¬ ((F_X7_at_106 mem (v4 - 1)) = (F_X7_at_104 mem (v6 - 1))) → (vp_in v6 41 ∧ ((vp_in (v6 - 1) 41) ∧ (WT κ 65 [some (.inr 154), some (.inr 106), some (.inr 104), some (.inl v3), some (.inl v4), some (.inl (mem 155 v6.toNatClampNeg)), some (.inl (v6 + 1)), none] [] (mset mem 155 v6.toNatClampNeg (imin (v5 + 1) (1 + (imin (mem 155 v6.toNatClampNeg) (mem 155 (Int32.toNatClampNeg (v6 - 1)))))))))))))))) : WT κ 65 [some (.inr 154), some (.inr 106), some (.inr 104), some (.inl v3), some (.inl v4), some (.inl v5), some (.inl v6), none] [] mem := by
  refine tr_iload hC dX1_fewest_65 rfl ?_
  refine tr_iload_n hC dX1_fewest_67 rfl rfl ?_
  refine tr_icmp_gt hC dX1_fewest_68 (tgt := 149) rfl (fun c68 => ?_) (fun c68 => ?_)
  · replace h := h.1 c68
    refine tr_iinc (v := v4 + 1) (loc2 := [some (.inr 154), some (.inr 106), some (.inr 104), some (.inl v3), some (.inl (v4 + 1)), some (.inl v5), some (.inl v6), none]) hC dX1_fewest_149 rfl rfl (by decide) rfl ?_
    refine tr_goto hC dX1_fewest_152 (tgt := 37) rfl ?_
    exact tr_weak (tl_s (tl_s (tl_s (tl_s (tl_s (tl_n (tl_n (tl_n (tl_nil _))))))))) h
  · replace h := h.2 c68
    refine tr_aload_n hC dX1_fewest_71 rfl rfl ?_
    refine tr_iload hC dX1_fewest_72 rfl ?_
    refine tr_iconst (v := 1) hC dX1_fewest_74 (by decide) ?_
    refine tr_isub hC dX1_fewest_75 ?_
    obtain ⟨g1, h⟩ := h
    refine tr_xVi (As := [.inl (v4 - 1)]) (fr2 := 0) (lo2 := 0) hC dX1_fewest_76 mc_X1_27 mv_X7_at sh_106 rfl ⟨Nat.le_of_ble_eq_true rfl, Nat.le_of_ble_eq_true rfl, Nat.le_of_ble_eq_true rfl⟩ rfl (C_X7_at_106 _ mem (v4 - 1) g1) ?_
    refine tr_aload_n hC dX1_fewest_79 rfl rfl ?_
    refine tr_iload hC dX1_fewest_80 rfl ?_
    refine tr_iconst (v := 1) hC dX1_fewest_82 (by decide) ?_
    refine tr_isub hC dX1_fewest_83 ?_
    obtain ⟨g2, h⟩ := h
    refine tr_xVi (As := [.inl (v6 - 1)]) (fr2 := 0) (lo2 := 0) hC dX1_fewest_84 mc_X1_27 mv_X7_at sh_104 rfl ⟨Nat.le_of_ble_eq_true rfl, Nat.le_of_ble_eq_true rfl, Nat.le_of_ble_eq_true rfl⟩ rfl (C_X7_at_104 _ mem (v6 - 1) g2) ?_
    refine tr_icmp_ne hC dX1_fewest_87 (tgt := 95) rfl (fun c87 => ?_) (fun c87 => ?_)
    · replace h := h.2 c87
      refine tr_iload hC dX1_fewest_95 rfl ?_
      refine tr_iconst (v := 1) hC dX1_fewest_97 (by decide) ?_
      refine tr_iadd hC dX1_fewest_98 ?_
      refine tr_istore (loc2 := [some (.inr 154), some (.inr 106), some (.inr 104), some (.inl v3), some (.inl v4), some (.inl v5), some (.inl v6), some (.inl (v5 + 1))]) hC dX1_fewest_99 (by decide) rfl ?_
      refine tr_aload_n hC dX1_fewest_101 rfl rfl ?_
      refine tr_getr hC dX1_fewest_102 gf_X1_9 sh_154 rfl ?_
      refine tr_iload hC dX1_fewest_105 rfl ?_
      obtain ⟨g3, h⟩ := h
      refine tr_al (v := mem 155 v6.toNatClampNeg) hC dX1_fewest_107 sh_155 g3 rfl ?_
      refine tr_istore (loc2 := [some (.inr 154), some (.inr 106), some (.inr 104), some (.inl v3), some (.inl v4), some (.inl (mem 155 v6.toNatClampNeg)), some (.inl v6), some (.inl (v5 + 1))]) hC dX1_fewest_108 (by decide) rfl ?_
      refine tr_aload_n hC dX1_fewest_110 rfl rfl ?_
      refine tr_getr hC dX1_fewest_111 gf_X1_9 sh_154 rfl ?_
      refine tr_iload hC dX1_fewest_114 rfl ?_
      refine tr_iload hC dX1_fewest_116 rfl ?_
      refine tr_iconst (v := 1) hC dX1_fewest_118 (by decide) ?_
      refine tr_aload_n hC dX1_fewest_119 rfl rfl ?_
      refine tr_getr hC dX1_fewest_120 gf_X1_9 sh_154 rfl ?_
      refine tr_iload hC dX1_fewest_123 rfl ?_
      refine tr_al (v := mem 155 v6.toNatClampNeg) hC dX1_fewest_125 sh_155 g3 rfl ?_
      refine tr_aload_n hC dX1_fewest_126 rfl rfl ?_
      refine tr_getr hC dX1_fewest_127 gf_X1_9 sh_154 rfl ?_
      refine tr_iload hC dX1_fewest_130 rfl ?_
      refine tr_iconst (v := 1) hC dX1_fewest_132 (by decide) ?_
      refine tr_isub hC dX1_fewest_133 ?_
      obtain ⟨g4, h⟩ := h
      refine tr_al (v := mem 155 (Int32.toNatClampNeg (v6 - 1))) hC dX1_fewest_134 sh_155 g4 rfl ?_
      refine tr_min hC dX1_fewest_135 mm_X1_21 ⟨Nat.le_of_ble_eq_true rfl, Nat.le_of_ble_eq_true rfl⟩ ?_
      refine tr_iadd hC dX1_fewest_138 ?_
      refine tr_min hC dX1_fewest_139 mm_X1_21 ⟨Nat.le_of_ble_eq_true rfl, Nat.le_of_ble_eq_true rfl⟩ ?_
      refine tr_iast hC dX1_fewest_142 sh_155 g3 ?_
      refine tr_iinc (v := v6 + 1) (loc2 := [some (.inr 154), some (.inr 106), some (.inr 104), some (.inl v3), some (.inl v4), some (.inl (mem 155 v6.toNatClampNeg)), some (.inl (v6 + 1)), some (.inl (v5 + 1))]) hC dX1_fewest_143 rfl rfl (by decide) rfl ?_
      refine tr_goto hC dX1_fewest_146 (tgt := 65) rfl ?_
      exact tr_weak (tl_s (tl_s (tl_s (tl_s (tl_s (tl_s (tl_s (tl_n (tl_nil _))))))))) h
    · replace h := h.1 c87
      refine tr_iload hC dX1_fewest_90 rfl ?_
      refine tr_goto hC dX1_fewest_92 (tgt := 99) rfl ?_
      refine tr_istore (loc2 := [some (.inr 154), some (.inr 106), some (.inr 104), some (.inl v3), some (.inl v4), some (.inl v5), some (.inl v6), some (.inl v5)]) hC dX1_fewest_99 (by decide) rfl ?_
      refine tr_aload_n hC dX1_fewest_101 rfl rfl ?_
      refine tr_getr hC dX1_fewest_102 gf_X1_9 sh_154 rfl ?_
      refine tr_iload hC dX1_fewest_105 rfl ?_
      obtain ⟨g5, h⟩ := h
      refine tr_al (v := mem 155 v6.toNatClampNeg) hC dX1_fewest_107 sh_155 g5 rfl ?_
      refine tr_istore (loc2 := [some (.inr 154), some (.inr 106), some (.inr 104), some (.inl v3), some (.inl v4), some (.inl (mem 155 v6.toNatClampNeg)), some (.inl v6), some (.inl v5)]) hC dX1_fewest_108 (by decide) rfl ?_
      refine tr_aload_n hC dX1_fewest_110 rfl rfl ?_
      refine tr_getr hC dX1_fewest_111 gf_X1_9 sh_154 rfl ?_
      refine tr_iload hC dX1_fewest_114 rfl ?_
      refine tr_iload hC dX1_fewest_116 rfl ?_
      refine tr_iconst (v := 1) hC dX1_fewest_118 (by decide) ?_
      refine tr_aload_n hC dX1_fewest_119 rfl rfl ?_
      refine tr_getr hC dX1_fewest_120 gf_X1_9 sh_154 rfl ?_
      refine tr_iload hC dX1_fewest_123 rfl ?_
      refine tr_al (v := mem 155 v6.toNatClampNeg) hC dX1_fewest_125 sh_155 g5 rfl ?_
      refine tr_aload_n hC dX1_fewest_126 rfl rfl ?_
      refine tr_getr hC dX1_fewest_127 gf_X1_9 sh_154 rfl ?_
      refine tr_iload hC dX1_fewest_130 rfl ?_
      refine tr_iconst (v := 1) hC dX1_fewest_132 (by decide) ?_
      refine tr_isub hC dX1_fewest_133 ?_
      obtain ⟨g6, h⟩ := h
      refine tr_al (v := mem 155 (Int32.toNatClampNeg (v6 - 1))) hC dX1_fewest_134 sh_155 g6 rfl ?_
      refine tr_min hC dX1_fewest_135 mm_X1_21 ⟨Nat.le_of_ble_eq_true rfl, Nat.le_of_ble_eq_true rfl⟩ ?_
      refine tr_iadd hC dX1_fewest_138 ?_
      refine tr_min hC dX1_fewest_139 mm_X1_21 ⟨Nat.le_of_ble_eq_true rfl, Nat.le_of_ble_eq_true rfl⟩ ?_
      refine tr_iast hC dX1_fewest_142 sh_155 g5 ?_
      refine tr_iinc (v := v6 + 1) (loc2 := [some (.inr 154), some (.inr 106), some (.inr 104), some (.inl v3), some (.inl v4), some (.inl (mem 155 v6.toNatClampNeg)), some (.inl (v6 + 1)), some (.inl v5)]) hC dX1_fewest_143 rfl rfl (by decide) rfl ?_
      refine tr_goto hC dX1_fewest_146 (tgt := 65) rfl ?_
      exact tr_weak (tl_s (tl_s (tl_s (tl_s (tl_s (tl_s (tl_s (tl_n (tl_nil _))))))))) h
set_option maxRecDepth 100000 in
theorem K_X10_edits_0 {κ : TCx} {post0 : Option TV → TMem → Prop} (hC : TC κ RX10 cX10_edits 1 6 153) (hT : TR κ (some .int) post0) (mem : TMem) (h : ∃ post : Int32 → TMem → Prop, TMi κ.1.2.1 i_X6_find 5 131 [.inr 40, .inr 1, .inr 10] mem post ∧ ∀ (x12 : Int32) (m12 : TMem), post x12 m12 → ((x12 = 0 → (post0 (some (.inl (-3))) m12)) ∧ (¬ (x12 = 0) → (∃ post : Int32 → TMem → Prop, TMi κ.1.2.1 i_X1_fewest 1 21 [.inr 154, .inr 106, .inr 104] m12 post ∧ ∀ (x33 : Int32) (m33 : TMem), post x33 m33 → post0 (some (.inl x33)) m33)))) : WT κ 0 [some (.inr 0)] [] mem := by
  refine tr_aload_n hC dX10_edits_0 rfl rfl ?_
  refine tr_getr hC dX10_edits_1 gf_X10_26 sh_0 rfl ?_
  refine tr_aload_n hC dX10_edits_4 rfl rfl ?_
  refine tr_getr hC dX10_edits_5 gf_X10_10 sh_0 rfl ?_
  refine tr_aload_n hC dX10_edits_8 rfl rfl ?_
  refine tr_getr hC dX10_edits_9 gf_X10_19 sh_0 rfl ?_
  obtain ⟨post12, hM12, h⟩ := h
  refine tr_cVi (As := [.inr 1, .inr 10]) (fr2 := 5) (lo2 := 131) hC dX10_edits_12 mc_X10_142 mv_X6_find sh_40 rfl ⟨Nat.le_of_ble_eq_true rfl, Nat.le_of_ble_eq_true rfl, Nat.le_of_ble_eq_true rfl⟩ rfl hM12 (fun x12 m12 hp12 => ?_)
  replace h := h x12 m12 hp12
  refine tr_if_eq hC dX10_edits_15 (tgt := 39) rfl (fun c15 => ?_) (fun c15 => ?_)
  · replace h := h.1 c15
    refine tr_bipush (v := (-3)) hC dX10_edits_39 (by decide) ?_
    exact tr_iret hC hT dX10_edits_41 h
  · replace h := h.2 c15
    refine tr_aload_n hC dX10_edits_18 rfl rfl ?_
    refine tr_getr hC dX10_edits_19 gf_X10_49 sh_0 rfl ?_
    refine tr_aload_n hC dX10_edits_22 rfl rfl ?_
    refine tr_getr hC dX10_edits_23 gf_X10_35 sh_0 rfl ?_
    refine tr_aload_n hC dX10_edits_26 rfl rfl ?_
    refine tr_getr hC dX10_edits_27 gf_X10_26 sh_0 rfl ?_
    refine tr_xVr (As := []) (fr2 := 0) (lo2 := 0) hC dX10_edits_30 mc_X10_149 mv_X6_row sh_40 rfl ⟨Nat.le_of_ble_eq_true rfl, Nat.le_of_ble_eq_true rfl, Nat.le_of_ble_eq_true rfl⟩ rfl (C_X6_row _ m12 ) ?_
    obtain ⟨post33, hM33, h⟩ := h
    refine tr_cVi (As := [.inr 106, .inr 104]) (fr2 := 1) (lo2 := 21) hC dX10_edits_33 mc_X10_185 mv_X1_fewest sh_154 rfl ⟨Nat.le_of_ble_eq_true rfl, Nat.le_of_ble_eq_true rfl, Nat.le_of_ble_eq_true rfl⟩ rfl hM33 (fun x33 m33 hp33 => ?_)
    replace h := h x33 m33 hp33
    refine tr_goto hC dX10_edits_36 (tgt := 41) rfl ?_
    exact tr_iret hC hT dX10_edits_41 h
set_option maxRecDepth 100000 in
theorem K_X4_learn_0 {κ : TCx} {post0 : Option TV → TMem → Prop} (hC : TC κ RX4 cX4_learn 8 1 23) (hT : TR κ (some .int) post0) (mem : TMem) (h : vp_in (mem 156 2) 16 ∧ (∃ post : TMem → Prop, TMv κ.1.2.1 i_J7_fill_53178 0 0 [.inr (165 + (Int32.toNatClampNeg (mem 156 2))), .inl 0] mem post ∧ ∀ (m12 : TMem), post m12 → (WT κ 21 [some (.inr 156), some (.inr 1), some (.inr 108), some (.inr (165 + (Int32.toNatClampNeg (mem 156 2)))), some (.inl 0), some (.inl 0), none, none] [] m12))) : WT κ 0 [some (.inr 156), some (.inr 1), some (.inr 108), none, none, none, none, none] [] mem := by
  refine tr_aload_n hC dX4_learn_0 rfl rfl ?_
  refine tr_getr hC dX4_learn_1 gf_X4_16 sh_156 rfl ?_
  refine tr_aload_n hC dX4_learn_4 rfl rfl ?_
  refine tr_gi (v := mem 156 2) hC dX4_learn_5 gf_X4_19 sh_156 rfl rfl ?_
  obtain ⟨g1, h⟩ := h
  refine tr_aald hC dX4_learn_8 sh_164 g1 ?_
  refine tr_astore_n (loc2 := [some (.inr 156), some (.inr 1), some (.inr 108), some (.inr (165 + (Int32.toNatClampNeg (mem 156 2)))), none, none, none, none]) hC dX4_learn_9 rfl (by decide) rfl ?_
  refine tr_aload_n hC dX4_learn_10 rfl rfl ?_
  refine tr_iconst (v := 0) hC dX4_learn_11 (by decide) ?_
  obtain ⟨post12, hM12, h⟩ := h
  refine tr_cSv (As := [.inr (165 + (Int32.toNatClampNeg (mem 156 2))), .inl 0]) (fr2 := 0) (lo2 := 0) hC dX4_learn_12 mc_X4_26 mst_J7_fill_53178 ⟨Nat.le_of_ble_eq_true rfl, Nat.le_of_ble_eq_true rfl, Nat.le_of_ble_eq_true rfl⟩ rfl hM12 (fun m12 hp12 => ?_)
  replace h := h m12 hp12
  refine tr_iconst (v := 0) hC dX4_learn_15 (by decide) ?_
  refine tr_istore (loc2 := [some (.inr 156), some (.inr 1), some (.inr 108), some (.inr (165 + (Int32.toNatClampNeg (mem 156 2)))), some (.inl 0), none, none, none]) hC dX4_learn_16 (by decide) rfl ?_
  refine tr_iconst (v := 0) hC dX4_learn_18 (by decide) ?_
  refine tr_istore (loc2 := [some (.inr 156), some (.inr 1), some (.inr 108), some (.inr (165 + (Int32.toNatClampNeg (mem 156 2)))), some (.inl 0), some (.inl 0), none, none]) hC dX4_learn_19 (by decide) rfl ?_
  exact h
set_option maxRecDepth 100000 in
theorem K_X4_learn_21 {κ : TCx} {post0 : Option TV → TMem → Prop} (hC : TC κ RX4 cX4_learn 8 1 23) (hT : TR κ (some .int) post0) (mem : TMem) (q3 : Nat) (hq3 : shp[q3]? = some (.inr (.inl 48))) (v4 : Int32) (v5 : Int32) (h : ((mem 1 2) ≤ v5 → (post0 (some (.inl v4)) (mset (mset mem 156 2 (((mem 156 2) + 1) - ((mem 156 2) + 1) / 16 * 16)) 156 3 (imin ((mem 156 3) + 1) 16)))) ∧ (¬ ((mem 1 2) ≤ v5) → (G_X2_markOf v5 ∧ (((mem 2 v5.toNatClampNeg) = (-1) → (WT κ 21 [some (.inr 156), some (.inr 1), some (.inr 108), some (.inr q3), some (.inl v4), some (.inl (v5 + 1)), none, none] [] mem)) ∧ (¬ ((mem 2 v5.toNatClampNeg) = (-1)) → (G_X3_soundAt mem v5 ∧ (vp_in (mem 109 (Int32.toNatClampNeg (mem 153 v5.toNatClampNeg))) 6 ∧ (vp_in (mem 2 v5.toNatClampNeg) 8 ∧ ((vp_in (((mem 109 (Int32.toNatClampNeg (mem 153 v5.toNatClampNeg))) * 8) + (mem 2 v5.toNatClampNeg)) 48) ∧ (WT κ 21 [some (.inr 156), some (.inr 1), some (.inr 108), some (.inr q3), some (.inl (v4 + 1)), some (.inl (v5 + 1)), none, none] [] (mset (mset mem (158 + (Int32.toNatClampNeg (mem 109 (Int32.toNatClampNeg (mem 153 v5.toNatClampNeg))))) (Int32.toNatClampNeg (mem 2 v5.toNatClampNeg)) ((mem (158 + (Int32.toNatClampNeg (mem 109 (Int32.toNatClampNeg (mem 153 v5.toNatClampNeg))))) (Int32.toNatClampNeg (mem 2 v5.toNatClampNeg))) + 1)) q3 (Int32.toNatClampNeg (((mem 109 (Int32.toNatClampNeg (mem 153 v5.toNatClampNeg))) * 8) + (mem 2 v5.toNatClampNeg))) (((mset mem (158 + (Int32.toNatClampNeg (mem 109 (Int32.toNatClampNeg (mem 153 v5.toNatClampNeg))))) (Int32.toNatClampNeg (mem 2 v5.toNatClampNeg)) ((mem (158 + (Int32.toNatClampNeg (mem 109 (Int32.toNatClampNeg (mem 153 v5.toNatClampNeg))))) (Int32.toNatClampNeg (mem 2 v5.toNatClampNeg))) + 1)) q3 (Int32.toNatClampNeg (((mem 109 (Int32.toNatClampNeg (mem 153 v5.toNatClampNeg))) * 8) + (mem 2 v5.toNatClampNeg)))) + 1)))))))))))) : WT κ 21 [some (.inr 156), some (.inr 1), some (.inr 108), some (.inr q3), some (.inl v4), some (.inl v5), none, none] [] mem := by
  refine tr_iload hC dX4_learn_21 rfl ?_
  refine tr_aload_n hC dX4_learn_23 rfl rfl ?_
  refine tr_xVi (As := []) (fr2 := 0) (lo2 := 0) hC dX4_learn_24 mc_X4_32 mv_X2_frames sh_1 rfl ⟨Nat.le_of_ble_eq_true rfl, Nat.le_of_ble_eq_true rfl, Nat.le_of_ble_eq_true rfl⟩ rfl (C_X2_frames _ mem ) ?_
  refine tr_icmp_ge hC dX4_learn_27 (tgt := 89) rfl (fun c27 => ?_) (fun c27 => ?_)
  · replace h := h.1 c27
    refine tr_aload_n hC dX4_learn_89 rfl rfl ?_
    refine tr_aload_n hC dX4_learn_90 rfl rfl ?_
    refine tr_gi (v := mem 156 2) hC dX4_learn_91 gf_X4_19 sh_156 rfl rfl ?_
    refine tr_iconst (v := 1) hC dX4_learn_94 (by decide) ?_
    refine tr_iadd hC dX4_learn_95 ?_
    refine tr_bipush (v := 16) hC dX4_learn_96 (by decide) ?_
    refine tr_irem hC dX4_learn_98 (by decide) ?_
    refine tr_puti hC dX4_learn_99 gp_X4_19 sh_156 rfl rfl rfl ?_
    refine tr_aload_n hC dX4_learn_102 rfl rfl ?_
    refine tr_aload_n hC dX4_learn_103 rfl rfl ?_
    refine tr_gi (v := mem 156 3) hC dX4_learn_104 gf_X4_23 sh_156 rfl (ms_sl (by decide)) ?_
    refine tr_iconst (v := 1) hC dX4_learn_107 (by decide) ?_
    refine tr_iadd hC dX4_learn_108 ?_
    refine tr_bipush (v := 16) hC dX4_learn_109 (by decide) ?_
    refine tr_min hC dX4_learn_111 mm_X4_47 ⟨Nat.le_of_ble_eq_true rfl, Nat.le_of_ble_eq_true rfl⟩ ?_
    refine tr_puti hC dX4_learn_114 gp_X4_23 sh_156 rfl rfl rfl ?_
    refine tr_iload hC dX4_learn_117 rfl ?_
    exact tr_iret hC hT dX4_learn_119 h
  · replace h := h.2 c27
    refine tr_aload_n hC dX4_learn_30 rfl rfl ?_
    refine tr_iload hC dX4_learn_31 rfl ?_
    obtain ⟨g1, h⟩ := h
    refine tr_xVi (As := [.inl v5]) (fr2 := 0) (lo2 := 0) hC dX4_learn_33 mc_X4_38 mv_X2_markOf sh_1 rfl ⟨Nat.le_of_ble_eq_true rfl, Nat.le_of_ble_eq_true rfl, Nat.le_of_ble_eq_true rfl⟩ rfl (C_X2_markOf _ mem v5 g1) ?_
    refine tr_istore (loc2 := [some (.inr 156), some (.inr 1), some (.inr 108), some (.inr q3), some (.inl v4), some (.inl v5), some (.inl (mem 2 v5.toNatClampNeg)), none]) hC dX4_learn_36 (by decide) rfl ?_
    refine tr_iload hC dX4_learn_38 rfl ?_
    refine tr_iconst (v := (-1)) hC dX4_learn_40 (by decide) ?_
    refine tr_icmp_eq hC dX4_learn_41 (tgt := 83) rfl (fun c41 => ?_) (fun c41 => ?_)
    · replace h := h.1 c41
      refine tr_iinc (v := v5 + 1) (loc2 := [some (.inr 156), some (.inr 1), some (.inr 108), some (.inr q3), some (.inl v4), some (.inl (v5 + 1)), some (.inl (mem 2 v5.toNatClampNeg)), none]) hC dX4_learn_83 rfl rfl (by decide) rfl ?_
      refine tr_goto hC dX4_learn_86 (tgt := 21) rfl ?_
      exact tr_weak (tl_s (tl_s (tl_s (tl_s (tl_s (tl_s (tl_n (tl_n (tl_nil _))))))))) h
    · replace h := h.2 c41
      refine tr_aload_n hC dX4_learn_44 rfl rfl ?_
      refine tr_iload hC dX4_learn_45 rfl ?_
      obtain ⟨g2, h⟩ := h
      refine tr_xVi (As := [.inl v5]) (fr2 := 0) (lo2 := 0) hC dX4_learn_47 mc_X4_42 mv_X3_soundAt sh_108 rfl ⟨Nat.le_of_ble_eq_true rfl, Nat.le_of_ble_eq_true rfl, Nat.le_of_ble_eq_true rfl⟩ rfl (C_X3_soundAt _ mem v5 g2) ?_
      refine tr_istore (loc2 := [some (.inr 156), some (.inr 1), some (.inr 108), some (.inr q3), some (.inl v4), some (.inl v5), some (.inl (mem 2 v5.toNatClampNeg)), some (.inl (mem 109 (Int32.toNatClampNeg (mem 153 v5.toNatClampNeg))))]) hC dX4_learn_50 (by decide) rfl ?_
      refine tr_aload_n hC dX4_learn_52 rfl rfl ?_
      refine tr_getr hC dX4_learn_53 gf_X4_11 sh_156 rfl ?_
      refine tr_iload hC dX4_learn_56 rfl ?_
      obtain ⟨g3, h⟩ := h
      refine tr_aald hC dX4_learn_58 sh_157 g3 ?_
      refine tr_iload hC dX4_learn_59 rfl ?_
      refine tr_dup2 hC dX4_learn_61 ?_
      obtain ⟨g4, h⟩ := h
      refine tr_al (v := mem (158 + (Int32.toNatClampNeg (mem 109 (Int32.toNatClampNeg (mem 153 v5.toNatClampNeg))))) (Int32.toNatClampNeg (mem 2 v5.toNatClampNeg))) hC dX4_learn_62 (shr_157 _ (vp_lt g3)) g4 rfl ?_
      refine tr_iconst (v := 1) hC dX4_learn_63 (by decide) ?_
      refine tr_iadd hC dX4_learn_64 ?_
      refine tr_iast hC dX4_learn_65 (shr_157 _ (vp_lt g3)) g4 ?_
      refine tr_aload_n hC dX4_learn_66 rfl rfl ?_
      refine tr_iload hC dX4_learn_67 rfl ?_
      refine tr_bipush (v := 8) hC dX4_learn_69 (by decide) ?_
      refine tr_imul hC dX4_learn_71 ?_
      refine tr_iload hC dX4_learn_72 rfl ?_
      refine tr_iadd hC dX4_learn_74 ?_
      refine tr_dup2 hC dX4_learn_75 ?_
      obtain ⟨g5, h⟩ := h
      refine tr_al (v := (mset mem (158 + (Int32.toNatClampNeg (mem 109 (Int32.toNatClampNeg (mem 153 v5.toNatClampNeg))))) (Int32.toNatClampNeg (mem 2 v5.toNatClampNeg)) ((mem (158 + (Int32.toNatClampNeg (mem 109 (Int32.toNatClampNeg (mem 153 v5.toNatClampNeg))))) (Int32.toNatClampNeg (mem 2 v5.toNatClampNeg))) + 1)) q3 (Int32.toNatClampNeg (((mem 109 (Int32.toNatClampNeg (mem 153 v5.toNatClampNeg))) * 8) + (mem 2 v5.toNatClampNeg)))) hC dX4_learn_76 hq3 g5 rfl ?_
      refine tr_iconst (v := 1) hC dX4_learn_77 (by decide) ?_
      refine tr_iadd hC dX4_learn_78 ?_
      refine tr_iast hC dX4_learn_79 hq3 g5 ?_
      refine tr_iinc (v := v4 + 1) (loc2 := [some (.inr 156), some (.inr 1), some (.inr 108), some (.inr q3), some (.inl (v4 + 1)), some (.inl v5), some (.inl (mem 2 v5.toNatClampNeg)), some (.inl (mem 109 (Int32.toNatClampNeg (mem 153 v5.toNatClampNeg))))]) hC dX4_learn_80 rfl rfl (by decide) rfl ?_
      refine tr_iinc (v := v5 + 1) (loc2 := [some (.inr 156), some (.inr 1), some (.inr 108), some (.inr q3), some (.inl (v4 + 1)), some (.inl (v5 + 1)), some (.inl (mem 2 v5.toNatClampNeg)), some (.inl (mem 109 (Int32.toNatClampNeg (mem 153 v5.toNatClampNeg))))]) hC dX4_learn_83 rfl rfl (by decide) rfl ?_
      refine tr_goto hC dX4_learn_86 (tgt := 21) rfl ?_
      exact tr_weak (tl_s (tl_s (tl_s (tl_s (tl_s (tl_s (tl_n (tl_n (tl_nil _))))))))) h
set_option maxRecDepth 100000 in
theorem K_X10_teach_0 {κ : TCx} {post0 : Option TV → TMem → Prop} (hC : TC κ RX10 cX10_teach 1 2 50) (hT : TR κ (some .int) post0) (mem : TMem) (h : G_X3_stands mem ∧ (((mem 108 5) = 0 → (post0 (some (.inl (-3))) mem)) ∧ (¬ ((mem 108 5) = 0) → (∃ post : Int32 → TMem → Prop, TMi κ.1.2.1 i_X4_learn 1 23 [.inr 156, .inr 1, .inr 108] mem post ∧ ∀ (x22 : Int32) (m22 : TMem), post x22 m22 → post0 (some (.inl x22)) m22)))) : WT κ 0 [some (.inr 0)] [] mem := by
  refine tr_aload_n hC dX10_teach_0 rfl rfl ?_
  refine tr_getr hC dX10_teach_1 gf_X10_42 sh_0 rfl ?_
  obtain ⟨g1, h⟩ := h
  refine tr_xVi (As := []) (fr2 := 0) (lo2 := 0) hC dX10_teach_4 mc_X10_172 mv_X3_stands sh_108 rfl ⟨Nat.le_of_ble_eq_true rfl, Nat.le_of_ble_eq_true rfl, Nat.le_of_ble_eq_true rfl⟩ rfl (C_X3_stands _ mem  g1) ?_
  refine tr_if_eq hC dX10_teach_7 (tgt := 28) rfl (fun c7 => ?_) (fun c7 => ?_)
  · replace h := h.1 c7
    refine tr_bipush (v := (-3)) hC dX10_teach_28 (by decide) ?_
    exact tr_iret hC hT dX10_teach_30 h
  · replace h := h.2 c7
    refine tr_aload_n hC dX10_teach_10 rfl rfl ?_
    refine tr_getr hC dX10_teach_11 gf_X10_56 sh_0 rfl ?_
    refine tr_aload_n hC dX10_teach_14 rfl rfl ?_
    refine tr_getr hC dX10_teach_15 gf_X10_10 sh_0 rfl ?_
    refine tr_aload_n hC dX10_teach_18 rfl rfl ?_
    refine tr_getr hC dX10_teach_19 gf_X10_42 sh_0 rfl ?_
    obtain ⟨post22, hM22, h⟩ := h
    refine tr_cVi (As := [.inr 1, .inr 108]) (fr2 := 1) (lo2 := 23) hC dX10_teach_22 mc_X10_189 mv_X4_learn sh_156 rfl ⟨Nat.le_of_ble_eq_true rfl, Nat.le_of_ble_eq_true rfl, Nat.le_of_ble_eq_true rfl⟩ rfl hM22 (fun x22 m22 hp22 => ?_)
    replace h := h x22 m22 hp22
    refine tr_goto hC dX10_teach_25 (tgt := 30) rfl ?_
    exact tr_iret hC hT dX10_teach_30 h
set_option maxRecDepth 100000 in
theorem K_X4_unlearn_0 {κ : TCx} {post0 : Option TV → TMem → Prop} (hC : TC κ RX4 cX4_unlearn 6 0 0) (hT : TR κ (some .int) post0) (mem : TMem) (h : (vp_in ((((mem 156 2) + 16) - 1) - (((mem 156 2) + 16) - 1) / 16 * 16) 16) ∧ (WT κ 40 [some (.inr 156), some (.inr (165 + (Int32.toNatClampNeg ((((mem 156 2) + 16) - 1) - (((mem 156 2) + 16) - 1) / 16 * 16)))), some (.inl 0), some (.inl 0), none, none] [] (mset (mset mem 156 2 ((((mem 156 2) + 16) - 1) - (((mem 156 2) + 16) - 1) / 16 * 16)) 156 3 ((mem 156 3) - 1)))) : WT κ 0 [some (.inr 156), none, none, none, none, none] [] mem := by
  refine tr_aload_n hC dX4_unlearn_0 rfl rfl ?_
  refine tr_aload_n hC dX4_unlearn_1 rfl rfl ?_
  refine tr_gi (v := mem 156 2) hC dX4_unlearn_2 gf_X4_19 sh_156 rfl rfl ?_
  refine tr_bipush (v := 16) hC dX4_unlearn_5 (by decide) ?_
  refine tr_iadd hC dX4_unlearn_7 ?_
  refine tr_iconst (v := 1) hC dX4_unlearn_8 (by decide) ?_
  refine tr_isub hC dX4_unlearn_9 ?_
  refine tr_bipush (v := 16) hC dX4_unlearn_10 (by decide) ?_
  refine tr_irem hC dX4_unlearn_12 (by decide) ?_
  refine tr_puti hC dX4_unlearn_13 gp_X4_19 sh_156 rfl rfl rfl ?_
  refine tr_aload_n hC dX4_unlearn_16 rfl rfl ?_
  refine tr_dup hC dX4_unlearn_17 ?_
  refine tr_gi (v := mem 156 3) hC dX4_unlearn_18 gf_X4_23 sh_156 rfl (ms_sl (by decide)) ?_
  refine tr_iconst (v := 1) hC dX4_unlearn_21 (by decide) ?_
  refine tr_isub hC dX4_unlearn_22 ?_
  refine tr_puti hC dX4_unlearn_23 gp_X4_23 sh_156 rfl rfl rfl ?_
  refine tr_aload_n hC dX4_unlearn_26 rfl rfl ?_
  refine tr_getr hC dX4_unlearn_27 gf_X4_16 sh_156 rfl ?_
  refine tr_aload_n hC dX4_unlearn_30 rfl rfl ?_
  refine tr_gi (v := (((mem 156 2) + 16) - 1) - (((mem 156 2) + 16) - 1) / 16 * 16) hC dX4_unlearn_31 gf_X4_19 sh_156 rfl ((ms_sl (by decide)).trans (ms_eq)) ?_
  obtain ⟨g1, h⟩ := h
  refine tr_aald hC dX4_unlearn_34 sh_164 g1 ?_
  refine tr_astore_n (loc2 := [some (.inr 156), some (.inr (165 + (Int32.toNatClampNeg ((((mem 156 2) + 16) - 1) - (((mem 156 2) + 16) - 1) / 16 * 16)))), none, none, none, none]) hC dX4_unlearn_35 rfl (by decide) rfl ?_
  refine tr_iconst (v := 0) hC dX4_unlearn_36 (by decide) ?_
  refine tr_istore_n (loc2 := [some (.inr 156), some (.inr (165 + (Int32.toNatClampNeg ((((mem 156 2) + 16) - 1) - (((mem 156 2) + 16) - 1) / 16 * 16)))), some (.inl 0), none, none, none]) hC dX4_unlearn_37 rfl (by decide) rfl ?_
  refine tr_iconst (v := 0) hC dX4_unlearn_38 (by decide) ?_
  refine tr_istore_n (loc2 := [some (.inr 156), some (.inr (165 + (Int32.toNatClampNeg ((((mem 156 2) + 16) - 1) - (((mem 156 2) + 16) - 1) / 16 * 16)))), some (.inl 0), some (.inl 0), none, none]) hC dX4_unlearn_39 rfl (by decide) rfl ?_
  exact h
set_option maxRecDepth 100000 in
theorem K_X4_unlearn_40 {κ : TCx} {post0 : Option TV → TMem → Prop} (hC : TC κ RX4 cX4_unlearn 6 0 0) (hT : TR κ (some .int) post0) (mem : TMem) (q1 : Nat) (hq1 : shp[q1]? = some (.inr (.inl 48))) (v2 : Int32) (v3 : Int32) (h : (6 ≤ v3 → post0 (some (.inl v2)) mem) ∧ (¬ (6 ≤ v3) → (WT κ 49 [some (.inr 156), some (.inr q1), some (.inl v2), some (.inl v3), some (.inl 0), none] [] mem))) : WT κ 40 [some (.inr 156), some (.inr q1), some (.inl v2), some (.inl v3), none, none] [] mem := by
  refine tr_iload_n hC dX4_unlearn_40 rfl rfl ?_
  refine tr_bipush (v := 6) hC dX4_unlearn_41 (by decide) ?_
  refine tr_icmp_ge hC dX4_unlearn_43 (tgt := 98) rfl (fun c43 => ?_) (fun c43 => ?_)
  · replace h := h.1 c43
    refine tr_iload_n hC dX4_unlearn_98 rfl rfl ?_
    exact tr_iret hC hT dX4_unlearn_99 h
  · replace h := h.2 c43
    refine tr_iconst (v := 0) hC dX4_unlearn_46 (by decide) ?_
    refine tr_istore (loc2 := [some (.inr 156), some (.inr q1), some (.inl v2), some (.inl v3), some (.inl 0), none]) hC dX4_unlearn_47 (by decide) rfl ?_
    exact h
set_option maxRecDepth 100000 in
theorem K_X4_unlearn_49 {κ : TCx} {post0 : Option TV → TMem → Prop} (hC : TC κ RX4 cX4_unlearn 6 0 0) (hT : TR κ (some .int) post0) (mem : TMem) (q1 : Nat) (hq1 : shp[q1]? = some (.inr (.inl 48))) (v2 : Int32) (v3 : Int32) (v4 : Int32) (h : (8 ≤ v4 → (WT κ 40 [some (.inr 156), some (.inr q1), some (.inl v2), some (.inl (v3 + 1)), none, none] [] mem)) ∧ (¬ (8 ≤ v4) → ((vp_in ((v3 * 8) + v4) 48) ∧ (vp_in v3 6 ∧ (vp_in v4 8 ∧ (WT κ 49 [some (.inr 156), some (.inr q1), some (.inl (v2 + (mem q1 (Int32.toNatClampNeg ((v3 * 8) + v4))))), some (.inl v3), some (.inl (v4 + 1)), none] [] (mset mem (158 + v3.toNatClampNeg) v4.toNatClampNeg ((mem (158 + v3.toNatClampNeg) v4.toNatClampNeg) - (mem q1 (Int32.toNatClampNeg ((v3 * 8) + v4))))))))))) : WT κ 49 [some (.inr 156), some (.inr q1), some (.inl v2), some (.inl v3), some (.inl v4), none] [] mem := by
  refine tr_iload hC dX4_unlearn_49 rfl ?_
  refine tr_bipush (v := 8) hC dX4_unlearn_51 (by decide) ?_
  refine tr_icmp_ge hC dX4_unlearn_53 (tgt := 92) rfl (fun c53 => ?_) (fun c53 => ?_)
  · replace h := h.1 c53
    refine tr_iinc (v := v3 + 1) (loc2 := [some (.inr 156), some (.inr q1), some (.inl v2), some (.inl (v3 + 1)), some (.inl v4), none]) hC dX4_unlearn_92 rfl rfl (by decide) rfl ?_
    refine tr_goto hC dX4_unlearn_95 (tgt := 40) rfl ?_
    exact tr_weak (tl_s (tl_s (tl_s (tl_s (tl_n (tl_n (tl_nil _))))))) h
  · replace h := h.2 c53
    refine tr_aload_n hC dX4_unlearn_56 rfl rfl ?_
    refine tr_iload_n hC dX4_unlearn_57 rfl rfl ?_
    refine tr_bipush (v := 8) hC dX4_unlearn_58 (by decide) ?_
    refine tr_imul hC dX4_unlearn_60 ?_
    refine tr_iload hC dX4_unlearn_61 rfl ?_
    refine tr_iadd hC dX4_unlearn_63 ?_
    obtain ⟨g1, h⟩ := h
    refine tr_al (v := mem q1 (Int32.toNatClampNeg ((v3 * 8) + v4))) hC dX4_unlearn_64 hq1 g1 rfl ?_
    refine tr_istore (loc2 := [some (.inr 156), some (.inr q1), some (.inl v2), some (.inl v3), some (.inl v4), some (.inl (mem q1 (Int32.toNatClampNeg ((v3 * 8) + v4))))]) hC dX4_unlearn_65 (by decide) rfl ?_
    refine tr_aload_n hC dX4_unlearn_67 rfl rfl ?_
    refine tr_getr hC dX4_unlearn_68 gf_X4_11 sh_156 rfl ?_
    refine tr_iload_n hC dX4_unlearn_71 rfl rfl ?_
    obtain ⟨g2, h⟩ := h
    refine tr_aald hC dX4_unlearn_72 sh_157 g2 ?_
    refine tr_iload hC dX4_unlearn_73 rfl ?_
    refine tr_dup2 hC dX4_unlearn_75 ?_
    obtain ⟨g3, h⟩ := h
    refine tr_al (v := mem (158 + v3.toNatClampNeg) v4.toNatClampNeg) hC dX4_unlearn_76 (shr_157 _ (vp_lt g2)) g3 rfl ?_
    refine tr_iload hC dX4_unlearn_77 rfl ?_
    refine tr_isub hC dX4_unlearn_79 ?_
    refine tr_iast hC dX4_unlearn_80 (shr_157 _ (vp_lt g2)) g3 ?_
    refine tr_iload_n hC dX4_unlearn_81 rfl rfl ?_
    refine tr_iload hC dX4_unlearn_82 rfl ?_
    refine tr_iadd hC dX4_unlearn_84 ?_
    refine tr_istore_n (loc2 := [some (.inr 156), some (.inr q1), some (.inl (v2 + (mem q1 (Int32.toNatClampNeg ((v3 * 8) + v4))))), some (.inl v3), some (.inl v4), some (.inl (mem q1 (Int32.toNatClampNeg ((v3 * 8) + v4))))]) hC dX4_unlearn_85 rfl (by decide) rfl ?_
    refine tr_iinc (v := v4 + 1) (loc2 := [some (.inr 156), some (.inr q1), some (.inl (v2 + (mem q1 (Int32.toNatClampNeg ((v3 * 8) + v4))))), some (.inl v3), some (.inl (v4 + 1)), some (.inl (mem q1 (Int32.toNatClampNeg ((v3 * 8) + v4))))]) hC dX4_unlearn_86 rfl rfl (by decide) rfl ?_
    refine tr_goto hC dX4_unlearn_89 (tgt := 49) rfl ?_
    exact tr_weak (tl_s (tl_s (tl_s (tl_s (tl_s (tl_n (tl_nil _))))))) h
set_option maxRecDepth 100000 in
theorem K_X10_unteach_0 {κ : TCx} {post0 : Option TV → TMem → Prop} (hC : TC κ RX10 cX10_unteach 1 1 25) (hT : TR κ (some .int) post0) (mem : TMem) (h : ((mem 156 3) ≤ 0 → (post0 (some (.inl (-3))) mem)) ∧ (¬ ((mem 156 3) ≤ 0) → (∃ post : Int32 → TMem → Prop, TMi κ.1.2.1 i_X4_unlearn 0 0 [.inr 156] mem post ∧ ∀ (x14 : Int32) (m14 : TMem), post x14 m14 → post0 (some (.inl x14)) m14))) : WT κ 0 [some (.inr 0)] [] mem := by
  refine tr_aload_n hC dX10_unteach_0 rfl rfl ?_
  refine tr_getr hC dX10_unteach_1 gf_X10_56 sh_0 rfl ?_
  refine tr_xVi (As := []) (fr2 := 0) (lo2 := 0) hC dX10_unteach_4 mc_X10_193 mv_X4_kept sh_156 rfl ⟨Nat.le_of_ble_eq_true rfl, Nat.le_of_ble_eq_true rfl, Nat.le_of_ble_eq_true rfl⟩ rfl (C_X4_kept _ mem ) ?_
  refine tr_if_le hC dX10_unteach_7 (tgt := 20) rfl (fun c7 => ?_) (fun c7 => ?_)
  · replace h := h.1 c7
    refine tr_bipush (v := (-3)) hC dX10_unteach_20 (by decide) ?_
    exact tr_iret hC hT dX10_unteach_22 h
  · replace h := h.2 c7
    refine tr_aload_n hC dX10_unteach_10 rfl rfl ?_
    refine tr_getr hC dX10_unteach_11 gf_X10_56 sh_0 rfl ?_
    obtain ⟨post14, hM14, h⟩ := h
    refine tr_cVi (As := []) (fr2 := 0) (lo2 := 0) hC dX10_unteach_14 mc_X10_196 mv_X4_unlearn sh_156 rfl ⟨Nat.le_of_ble_eq_true rfl, Nat.le_of_ble_eq_true rfl, Nat.le_of_ble_eq_true rfl⟩ rfl hM14 (fun x14 m14 hp14 => ?_)
    replace h := h x14 m14 hp14
    refine tr_goto hC dX10_unteach_17 (tgt := 22) rfl ?_
    exact tr_iret hC hT dX10_unteach_22 h
set_option maxRecDepth 100000 in
theorem K_X4_allOf_0 {κ : TCx} {post0 : Option TV → TMem → Prop} (hC : TC κ RX4 cX4_allOf 4 0 0) (hT : TR κ (some .int) post0) (mem : TMem) (p1 : Int32) (h : WT κ 4 [some (.inr 156), some (.inl p1), some (.inl 0), some (.inl 0)] [] mem) : WT κ 0 [some (.inr 156), some (.inl p1), none, none] [] mem := by
  refine tr_iconst (v := 0) hC dX4_allOf_0 (by decide) ?_
  refine tr_istore_n (loc2 := [some (.inr 156), some (.inl p1), some (.inl 0), none]) hC dX4_allOf_1 rfl (by decide) rfl ?_
  refine tr_iconst (v := 0) hC dX4_allOf_2 (by decide) ?_
  refine tr_istore_n (loc2 := [some (.inr 156), some (.inl p1), some (.inl 0), some (.inl 0)]) hC dX4_allOf_3 rfl (by decide) rfl ?_
  exact h
set_option maxRecDepth 100000 in
theorem K_X4_allOf_4 {κ : TCx} {post0 : Option TV → TMem → Prop} (hC : TC κ RX4 cX4_allOf 4 0 0) (hT : TR κ (some .int) post0) (mem : TMem) (v1 : Int32) (v2 : Int32) (v3 : Int32) (h : (8 ≤ v3 → post0 (some (.inl v2)) mem) ∧ (¬ (8 ≤ v3) → (vp_in v1 6 ∧ (vp_in v3 8 ∧ (WT κ 4 [some (.inr 156), some (.inl v1), some (.inl (v2 + (mem (158 + v1.toNatClampNeg) v3.toNatClampNeg))), some (.inl (v3 + 1))] [] mem))))) : WT κ 4 [some (.inr 156), some (.inl v1), some (.inl v2), some (.inl v3)] [] mem := by
  refine tr_iload_n hC dX4_allOf_4 rfl rfl ?_
  refine tr_bipush (v := 8) hC dX4_allOf_5 (by decide) ?_
  refine tr_icmp_ge hC dX4_allOf_7 (tgt := 27) rfl (fun c7 => ?_) (fun c7 => ?_)
  · replace h := h.1 c7
    refine tr_iload_n hC dX4_allOf_27 rfl rfl ?_
    exact tr_iret hC hT dX4_allOf_28 h
  · replace h := h.2 c7
    refine tr_iload_n hC dX4_allOf_10 rfl rfl ?_
    refine tr_aload_n hC dX4_allOf_11 rfl rfl ?_
    refine tr_getr hC dX4_allOf_12 gf_X4_11 sh_156 rfl ?_
    refine tr_iload_n hC dX4_allOf_15 rfl rfl ?_
    obtain ⟨g1, h⟩ := h
    refine tr_aald hC dX4_allOf_16 sh_157 g1 ?_
    refine tr_iload_n hC dX4_allOf_17 rfl rfl ?_
    obtain ⟨g2, h⟩ := h
    refine tr_al (v := mem (158 + v1.toNatClampNeg) v3.toNatClampNeg) hC dX4_allOf_18 (shr_157 _ (vp_lt g1)) g2 rfl ?_
    refine tr_iadd hC dX4_allOf_19 ?_
    refine tr_istore_n (loc2 := [some (.inr 156), some (.inl v1), some (.inl (v2 + (mem (158 + v1.toNatClampNeg) v3.toNatClampNeg))), some (.inl v3)]) hC dX4_allOf_20 rfl (by decide) rfl ?_
    refine tr_iinc (v := v3 + 1) (loc2 := [some (.inr 156), some (.inl v1), some (.inl (v2 + (mem (158 + v1.toNatClampNeg) v3.toNatClampNeg))), some (.inl (v3 + 1))]) hC dX4_allOf_21 rfl rfl (by decide) rfl ?_
    refine tr_goto hC dX4_allOf_24 (tgt := 4) rfl ?_
    exact h
set_option maxRecDepth 100000 in
theorem K_X4_setCosts_0 {κ : TCx} {post0 : Option TV → TMem → Prop} (hC : TC κ RX4 cX4_setCosts 6 1 23) (hT : TR κ (some .int) post0) (mem : TMem) (h : WT κ 4 [some (.inr 156), some (.inr 1), some (.inl 0), some (.inl 0), none, none] [] mem) : WT κ 0 [some (.inr 156), some (.inr 1), none, none, none, none] [] mem := by
  refine tr_iconst (v := 0) hC dX4_setCosts_0 (by decide) ?_
  refine tr_istore_n (loc2 := [some (.inr 156), some (.inr 1), some (.inl 0), none, none, none]) hC dX4_setCosts_1 rfl (by decide) rfl ?_
  refine tr_iconst (v := 0) hC dX4_setCosts_2 (by decide) ?_
  refine tr_istore_n (loc2 := [some (.inr 156), some (.inr 1), some (.inl 0), some (.inl 0), none, none]) hC dX4_setCosts_3 rfl (by decide) rfl ?_
  exact h
set_option maxRecDepth 100000 in
theorem K_X4_setCosts_4 {κ : TCx} {post0 : Option TV → TMem → Prop} (hC : TC κ RX4 cX4_setCosts 6 1 23) (hT : TR κ (some .int) post0) (mem : TMem) (v2 : Int32) (v3 : Int32) (h : (6 ≤ v3 → post0 (some (.inl v2)) mem) ∧ (¬ (6 ≤ v3) → (∃ post : Int32 → TMem → Prop, TMi κ.1.2.1 i_X4_allOf 0 0 [.inr 156, .inl v3] mem post ∧ ∀ (x12 : Int32) (m12 : TMem), post x12 m12 → ((x12 ≤ 0 → (WT κ 4 [some (.inr 156), some (.inr 1), some (.inl v2), some (.inl (v3 + 1)), none, none] [] m12)) ∧ (¬ (x12 ≤ 0) → (WT κ 25 [some (.inr 156), some (.inr 1), some (.inl v2), some (.inl v3), some (.inl x12), some (.inl 0)] [] m12)))))) : WT κ 4 [some (.inr 156), some (.inr 1), some (.inl v2), some (.inl v3), none, none] [] mem := by
  refine tr_iload_n hC dX4_setCosts_4 rfl rfl ?_
  refine tr_bipush (v := 6) hC dX4_setCosts_5 (by decide) ?_
  refine tr_icmp_ge hC dX4_setCosts_7 (tgt := 72) rfl (fun c7 => ?_) (fun c7 => ?_)
  · replace h := h.1 c7
    refine tr_iload_n hC dX4_setCosts_72 rfl rfl ?_
    exact tr_iret hC hT dX4_setCosts_73 h
  · replace h := h.2 c7
    refine tr_aload_n hC dX4_setCosts_10 rfl rfl ?_
    refine tr_iload_n hC dX4_setCosts_11 rfl rfl ?_
    obtain ⟨post12, hM12, h⟩ := h
    refine tr_cVi (As := [.inl v3]) (fr2 := 0) (lo2 := 0) hC dX4_setCosts_12 mc_X4_53 mv_X4_allOf sh_156 rfl ⟨Nat.le_of_ble_eq_true rfl, Nat.le_of_ble_eq_true rfl, Nat.le_of_ble_eq_true rfl⟩ rfl hM12 (fun x12 m12 hp12 => ?_)
    replace h := h x12 m12 hp12
    refine tr_istore (loc2 := [some (.inr 156), some (.inr 1), some (.inl v2), some (.inl v3), some (.inl x12), none]) hC dX4_setCosts_15 (by decide) rfl ?_
    refine tr_iload hC dX4_setCosts_17 rfl ?_
    refine tr_if_le hC dX4_setCosts_19 (tgt := 66) rfl (fun c19 => ?_) (fun c19 => ?_)
    · replace h := h.1 c19
      refine tr_iinc (v := v3 + 1) (loc2 := [some (.inr 156), some (.inr 1), some (.inl v2), some (.inl (v3 + 1)), some (.inl x12), none]) hC dX4_setCosts_66 rfl rfl (by decide) rfl ?_
      refine tr_goto hC dX4_setCosts_69 (tgt := 4) rfl ?_
      exact tr_weak (tl_s (tl_s (tl_s (tl_s (tl_n (tl_n (tl_nil _))))))) h
    · replace h := h.2 c19
      refine tr_iconst (v := 0) hC dX4_setCosts_22 (by decide) ?_
      refine tr_istore (loc2 := [some (.inr 156), some (.inr 1), some (.inl v2), some (.inl v3), some (.inl x12), some (.inl 0)]) hC dX4_setCosts_23 (by decide) rfl ?_
      exact h
set_option maxRecDepth 100000 in
theorem K_X4_setCosts_25 {κ : TCx} {post0 : Option TV → TMem → Prop} (hC : TC κ RX4 cX4_setCosts 6 1 23) (hT : TR κ (some .int) post0) (mem : TMem) (v2 : Int32) (v3 : Int32) (v4 : Int32) (v5 : Int32) (h : (8 ≤ v5 → (WT κ 4 [some (.inr 156), some (.inr 1), some (.inl (v2 + 1)), some (.inl (v3 + 1)), none, none] [] mem)) ∧ (¬ (8 ≤ v5) → (vp_in v3 6 ∧ (vp_in v5 8 ∧ ((¬ v4 = 0) ∧ ((G_X2_setCost v3 v5 ((50 * (v4 - (mem (158 + v3.toNatClampNeg) v5.toNatClampNeg))) / v4)) ∧ (WT κ 25 [some (.inr 156), some (.inr 1), some (.inl v2), some (.inl v3), some (.inl v4), some (.inl (v5 + 1))] [] (mset mem (4 + v3.toNatClampNeg) v5.toNatClampNeg ((50 * (v4 - (mem (158 + v3.toNatClampNeg) v5.toNatClampNeg))) / v4))))))))) : WT κ 25 [some (.inr 156), some (.inr 1), some (.inl v2), some (.inl v3), some (.inl v4), some (.inl v5)] [] mem := by
  refine tr_iload hC dX4_setCosts_25 rfl ?_
  refine tr_bipush (v := 8) hC dX4_setCosts_27 (by decide) ?_
  refine tr_icmp_ge hC dX4_setCosts_29 (tgt := 63) rfl (fun c29 => ?_) (fun c29 => ?_)
  · replace h := h.1 c29
    refine tr_iinc (v := v2 + 1) (loc2 := [some (.inr 156), some (.inr 1), some (.inl (v2 + 1)), some (.inl v3), some (.inl v4), some (.inl v5)]) hC dX4_setCosts_63 rfl rfl (by decide) rfl ?_
    refine tr_iinc (v := v3 + 1) (loc2 := [some (.inr 156), some (.inr 1), some (.inl (v2 + 1)), some (.inl (v3 + 1)), some (.inl v4), some (.inl v5)]) hC dX4_setCosts_66 rfl rfl (by decide) rfl ?_
    refine tr_goto hC dX4_setCosts_69 (tgt := 4) rfl ?_
    exact tr_weak (tl_s (tl_s (tl_s (tl_s (tl_n (tl_n (tl_nil _))))))) h
  · replace h := h.2 c29
    refine tr_aload_n hC dX4_setCosts_32 rfl rfl ?_
    refine tr_iload_n hC dX4_setCosts_33 rfl rfl ?_
    refine tr_iload hC dX4_setCosts_34 rfl ?_
    refine tr_bipush (v := 50) hC dX4_setCosts_36 (by decide) ?_
    refine tr_iload hC dX4_setCosts_38 rfl ?_
    refine tr_aload_n hC dX4_setCosts_40 rfl rfl ?_
    refine tr_getr hC dX4_setCosts_41 gf_X4_11 sh_156 rfl ?_
    refine tr_iload_n hC dX4_setCosts_44 rfl rfl ?_
    obtain ⟨g1, h⟩ := h
    refine tr_aald hC dX4_setCosts_45 sh_157 g1 ?_
    refine tr_iload hC dX4_setCosts_46 rfl ?_
    obtain ⟨g2, h⟩ := h
    refine tr_al (v := mem (158 + v3.toNatClampNeg) v5.toNatClampNeg) hC dX4_setCosts_48 (shr_157 _ (vp_lt g1)) g2 rfl ?_
    refine tr_isub hC dX4_setCosts_49 ?_
    refine tr_imul hC dX4_setCosts_50 ?_
    refine tr_iload hC dX4_setCosts_51 rfl ?_
    obtain ⟨g3, h⟩ := h
    refine tr_idiv hC dX4_setCosts_53 g3 ?_
    obtain ⟨g4, h⟩ := h
    refine tr_xVv (As := [.inl v3, .inl v5, .inl ((50 * (v4 - (mem (158 + v3.toNatClampNeg) v5.toNatClampNeg))) / v4)]) (fr2 := 0) (lo2 := 0) hC dX4_setCosts_54 mc_X4_56 mv_X2_setCost sh_1 rfl ⟨Nat.le_of_ble_eq_true rfl, Nat.le_of_ble_eq_true rfl, Nat.le_of_ble_eq_true rfl⟩ rfl (C_X2_setCost _ mem v3 v5 ((50 * (v4 - (mem (158 + v3.toNatClampNeg) v5.toNatClampNeg))) / v4) g4) ?_
    refine tr_iinc (v := v5 + 1) (loc2 := [some (.inr 156), some (.inr 1), some (.inl v2), some (.inl v3), some (.inl v4), some (.inl (v5 + 1))]) hC dX4_setCosts_57 rfl rfl (by decide) rfl ?_
    refine tr_goto hC dX4_setCosts_60 (tgt := 25) rfl ?_
    exact h
set_option maxRecDepth 100000 in
theorem K_X10_renew_0 {κ : TCx} {post0 : Option TV → TMem → Prop} (hC : TC κ RX10 cX10_renew 1 2 48) (hT : TR κ (some .int) post0) (mem : TMem) (h : ∃ post : Int32 → TMem → Prop, TMi κ.1.2.1 i_X4_setCosts 1 23 [.inr 156, .inr 1] (mset (mset mem 40 6 0) 108 5 0) post ∧ ∀ (x12 : Int32) (m12 : TMem), post x12 m12 → post0 (some (.inl x12)) m12) : WT κ 0 [some (.inr 0)] [] mem := by
  refine tr_aload_n hC dX10_renew_0 rfl rfl ?_
  refine tr_xVv (As := []) (fr2 := 1) (lo2 := 20) hC dX10_renew_1 mc_X10_82 mv_X10_endWhatLeansOnThis sh_0 rfl ⟨Nat.le_of_ble_eq_true rfl, Nat.le_of_ble_eq_true rfl, Nat.le_of_ble_eq_true rfl⟩ rfl (C_X10_endWhatLeansOnThis _ mem ) ?_
  refine tr_aload_n hC dX10_renew_4 rfl rfl ?_
  refine tr_getr hC dX10_renew_5 gf_X10_56 sh_0 rfl ?_
  refine tr_aload_n hC dX10_renew_8 rfl rfl ?_
  refine tr_getr hC dX10_renew_9 gf_X10_10 sh_0 rfl ?_
  obtain ⟨post12, hM12, h⟩ := h
  refine tr_cVi (As := [.inr 1]) (fr2 := 1) (lo2 := 23) hC dX10_renew_12 mc_X10_202 mv_X4_setCosts sh_156 rfl ⟨Nat.le_of_ble_eq_true rfl, Nat.le_of_ble_eq_true rfl, Nat.le_of_ble_eq_true rfl⟩ rfl hM12 (fun x12 m12 hp12 => ?_)
  replace h := h x12 m12 hp12
  exact tr_iret hC hT dX10_renew_15 h
set_option maxRecDepth 100000 in
theorem K_X8_startNowhere_0 {κ : TCx} {post0 : Option TV → TMem → Prop} (hC : TC κ RX8 cX8_startNowhere 1 1 23) (hT : TR κ none post0) (mem : TMem) (h : ∃ post : TMem → Prop, TMv κ.1.2.1 i_J7_fill_53178 0 0 [.inr 183, .inl 1000000] mem post ∧ ∀ (m6 : TMem), post m6 → post0 none m6) : WT κ 0 [some (.inr 182)] [] mem := by
  refine tr_aload_n hC dX8_startNowhere_0 rfl rfl ?_
  refine tr_getr hC dX8_startNowhere_1 gf_X8_9 sh_182 rfl ?_
  refine tr_ldc hC dX8_startNowhere_4 lc_X8_21 ?_
  obtain ⟨post6, hM6, h⟩ := h
  refine tr_cSv (As := [.inr 183, .inl 1000000]) (fr2 := 0) (lo2 := 0) hC dX8_startNowhere_6 mc_X8_22 mst_J7_fill_53178 ⟨Nat.le_of_ble_eq_true rfl, Nat.le_of_ble_eq_true rfl, Nat.le_of_ble_eq_true rfl⟩ rfl hM6 (fun m6 hp6 => ?_)
  replace h := h m6 hp6
  exact tr_vret hC hT dX8_startNowhere_9 h
set_option maxRecDepth 100000 in
theorem K_X8_step_182_1_10_0 {κ : TCx} {post0 : Option TV → TMem → Prop} (hC : TC κ RX8 cX8_step 9 1 23) (hT : TR κ none post0) (mem : TMem) (p1 : Int32) (p2 : Int32) (p3 : Int32) (h : G_X5_lengthOf p1 p2 ∧ (WT κ 11 [some (.inr 182), some (.inr 1), some (.inr 10), some (.inl p1), some (.inl p2), some (.inl p3), some (.inl ((mem 28 (Int32.toNatClampNeg ((p1 * 2) + p2))) - 1)), none, none] [] mem)) : WT κ 0 [some (.inr 182), some (.inr 1), some (.inr 10), some (.inl p1), some (.inl p2), some (.inl p3), none, none, none] [] mem := by
  refine tr_aload_n hC dX8_step_0 rfl rfl ?_
  refine tr_iload_n hC dX8_step_1 rfl rfl ?_
  refine tr_iload hC dX8_step_2 rfl ?_
  obtain ⟨g1, h⟩ := h
  refine tr_xVi (As := [.inl p1, .inl p2]) (fr2 := 0) (lo2 := 0) hC dX8_step_4 mc_X8_40 mv_X5_lengthOf sh_10 rfl ⟨Nat.le_of_ble_eq_true rfl, Nat.le_of_ble_eq_true rfl, Nat.le_of_ble_eq_true rfl⟩ rfl (C_X5_lengthOf _ mem p1 p2 g1) ?_
  refine tr_iconst (v := 1) hC dX8_step_7 (by decide) ?_
  refine tr_isub hC dX8_step_8 ?_
  refine tr_istore (loc2 := [some (.inr 182), some (.inr 1), some (.inr 10), some (.inl p1), some (.inl p2), some (.inl p3), some (.inl ((mem 28 (Int32.toNatClampNeg ((p1 * 2) + p2))) - 1)), none, none]) hC dX8_step_9 (by decide) rfl ?_
  exact h
set_option maxRecDepth 100000 in
theorem K_X8_step_182_1_10_11 {κ : TCx} {post0 : Option TV → TMem → Prop} (hC : TC κ RX8 cX8_step 9 1 23) (hT : TR κ none post0) (mem : TMem) (v3 : Int32) (v4 : Int32) (v5 : Int32) (v6 : Int32) (h : (v6 < 0 → post0 none mem) ∧ (¬ (v6 < 0) → ((v6 = 0 → (vp_in v5 41 ∧ (vp_in v6 4 ∧ (G_X5_soundOf v3 v4 v6 ∧ ((G_X2_costAt mem (mem (12 + (Int32.toNatClampNeg ((v3 * 2) + v4))) v6.toNatClampNeg) v5) ∧ (WT κ 11 [some (.inr 182), some (.inr 1), some (.inr 10), some (.inl v3), some (.inl v4), some (.inl v5), some (.inl (v6 + (-1))), none, none] [] (mset mem 185 v6.toNatClampNeg (imin 1000000 ((imin (mem 183 v5.toNatClampNeg) ((mem 185 v6.toNatClampNeg) + (mem 1 3))) + (F_X2_costAt mem (mem (12 + (Int32.toNatClampNeg ((v3 * 2) + v4))) v6.toNatClampNeg) v5)))))))))) ∧ (¬ (v6 = 0) → ((vp_in (v6 - 1) 4) ∧ (vp_in v6 4 ∧ (G_X5_soundOf v3 v4 v6 ∧ ((G_X2_costAt mem (mem (12 + (Int32.toNatClampNeg ((v3 * 2) + v4))) v6.toNatClampNeg) v5) ∧ (WT κ 11 [some (.inr 182), some (.inr 1), some (.inr 10), some (.inl v3), some (.inl v4), some (.inl v5), some (.inl (v6 + (-1))), none, none] [] (mset mem 185 v6.toNatClampNeg (imin 1000000 ((imin (mem 185 (Int32.toNatClampNeg (v6 - 1))) ((mem 185 v6.toNatClampNeg) + (mem 1 3))) + (F_X2_costAt mem (mem (12 + (Int32.toNatClampNeg ((v3 * 2) + v4))) v6.toNatClampNeg) v5))))))))))))) : WT κ 11 [some (.inr 182), some (.inr 1), some (.inr 10), some (.inl v3), some (.inl v4), some (.inl v5), some (.inl v6), none, none] [] mem := by
  refine tr_iload hC dX8_step_11 rfl ?_
  refine tr_if_lt hC dX8_step_13 (tgt := 97) rfl (fun c13 => ?_) (fun c13 => ?_)
  · replace h := h.1 c13
    exact tr_vret hC hT dX8_step_97 h
  · replace h := h.2 c13
    refine tr_iload hC dX8_step_16 rfl ?_
    refine tr_if_ne hC dX8_step_18 (tgt := 31) rfl (fun c18 => ?_) (fun c18 => ?_)
    · replace h := h.2 c18
      refine tr_aload_n hC dX8_step_31 rfl rfl ?_
      refine tr_getr hC dX8_step_32 gf_X8_18 sh_182 rfl ?_
      refine tr_iload hC dX8_step_35 rfl ?_
      refine tr_iconst (v := 1) hC dX8_step_37 (by decide) ?_
      refine tr_isub hC dX8_step_38 ?_
      obtain ⟨g1, h⟩ := h
      refine tr_al (v := mem 185 (Int32.toNatClampNeg (v6 - 1))) hC dX8_step_39 sh_185 g1 rfl ?_
      refine tr_istore (loc2 := [some (.inr 182), some (.inr 1), some (.inr 10), some (.inl v3), some (.inl v4), some (.inl v5), some (.inl v6), some (.inl (mem 185 (Int32.toNatClampNeg (v6 - 1)))), none]) hC dX8_step_40 (by decide) rfl ?_
      refine tr_iload hC dX8_step_42 rfl ?_
      refine tr_aload_n hC dX8_step_44 rfl rfl ?_
      refine tr_getr hC dX8_step_45 gf_X8_18 sh_182 rfl ?_
      refine tr_iload hC dX8_step_48 rfl ?_
      obtain ⟨g2, h⟩ := h
      refine tr_al (v := mem 185 v6.toNatClampNeg) hC dX8_step_50 sh_185 g2 rfl ?_
      refine tr_aload_n hC dX8_step_51 rfl rfl ?_
      refine tr_xVi (As := []) (fr2 := 0) (lo2 := 0) hC dX8_step_52 mc_X8_47 mv_X2_stayCost sh_1 rfl ⟨Nat.le_of_ble_eq_true rfl, Nat.le_of_ble_eq_true rfl, Nat.le_of_ble_eq_true rfl⟩ rfl (C_X2_stayCost _ mem ) ?_
      refine tr_iadd hC dX8_step_55 ?_
      refine tr_min hC dX8_step_56 mm_X8_28 ⟨Nat.le_of_ble_eq_true rfl, Nat.le_of_ble_eq_true rfl⟩ ?_
      refine tr_istore (loc2 := [some (.inr 182), some (.inr 1), some (.inr 10), some (.inl v3), some (.inl v4), some (.inl v5), some (.inl v6), some (.inl (mem 185 (Int32.toNatClampNeg (v6 - 1)))), some (.inl (imin (mem 185 (Int32.toNatClampNeg (v6 - 1))) ((mem 185 v6.toNatClampNeg) + (mem 1 3))))]) hC dX8_step_59 (by decide) rfl ?_
      refine tr_aload_n hC dX8_step_61 rfl rfl ?_
      refine tr_getr hC dX8_step_62 gf_X8_18 sh_182 rfl ?_
      refine tr_iload hC dX8_step_65 rfl ?_
      refine tr_ldc hC dX8_step_67 lc_X8_21 ?_
      refine tr_iload hC dX8_step_69 rfl ?_
      refine tr_aload_n hC dX8_step_71 rfl rfl ?_
      refine tr_aload_n hC dX8_step_72 rfl rfl ?_
      refine tr_iload_n hC dX8_step_73 rfl rfl ?_
      refine tr_iload hC dX8_step_74 rfl ?_
      refine tr_iload hC dX8_step_76 rfl ?_
      obtain ⟨g3, h⟩ := h
      refine tr_xVi (As := [.inl v3, .inl v4, .inl v6]) (fr2 := 0) (lo2 := 0) hC dX8_step_78 mc_X8_53 mv_X5_soundOf sh_10 rfl ⟨Nat.le_of_ble_eq_true rfl, Nat.le_of_ble_eq_true rfl, Nat.le_of_ble_eq_true rfl⟩ rfl (C_X5_soundOf _ mem v3 v4 v6 g3) ?_
      refine tr_iload hC dX8_step_81 rfl ?_
      obtain ⟨g4, h⟩ := h
      refine tr_xVi (As := [.inl (mem (12 + (Int32.toNatClampNeg ((v3 * 2) + v4))) v6.toNatClampNeg), .inl v5]) (fr2 := 0) (lo2 := 0) hC dX8_step_83 mc_X8_57 mv_X2_costAt sh_1 rfl ⟨Nat.le_of_ble_eq_true rfl, Nat.le_of_ble_eq_true rfl, Nat.le_of_ble_eq_true rfl⟩ rfl (C_X2_costAt _ mem (mem (12 + (Int32.toNatClampNeg ((v3 * 2) + v4))) v6.toNatClampNeg) v5 g4) ?_
      refine tr_iadd hC dX8_step_86 ?_
      refine tr_min hC dX8_step_87 mm_X8_28 ⟨Nat.le_of_ble_eq_true rfl, Nat.le_of_ble_eq_true rfl⟩ ?_
      refine tr_iast hC dX8_step_90 sh_185 g2 ?_
      refine tr_iinc (v := v6 + (-1)) (loc2 := [some (.inr 182), some (.inr 1), some (.inr 10), some (.inl v3), some (.inl v4), some (.inl v5), some (.inl (v6 + (-1))), some (.inl (mem 185 (Int32.toNatClampNeg (v6 - 1)))), some (.inl (imin (mem 185 (Int32.toNatClampNeg (v6 - 1))) ((mem 185 v6.toNatClampNeg) + (mem 1 3))))]) hC dX8_step_91 rfl rfl (by decide) rfl ?_
      refine tr_goto hC dX8_step_94 (tgt := 11) rfl ?_
      exact tr_weak (tl_s (tl_s (tl_s (tl_s (tl_s (tl_s (tl_s (tl_n (tl_n (tl_nil _)))))))))) h
    · replace h := h.1 c18
      refine tr_aload_n hC dX8_step_21 rfl rfl ?_
      refine tr_getr hC dX8_step_22 gf_X8_9 sh_182 rfl ?_
      refine tr_iload hC dX8_step_25 rfl ?_
      obtain ⟨g5, h⟩ := h
      refine tr_al (v := mem 183 v5.toNatClampNeg) hC dX8_step_27 sh_183 g5 rfl ?_
      refine tr_goto hC dX8_step_28 (tgt := 40) rfl ?_
      refine tr_istore (loc2 := [some (.inr 182), some (.inr 1), some (.inr 10), some (.inl v3), some (.inl v4), some (.inl v5), some (.inl v6), some (.inl (mem 183 v5.toNatClampNeg)), none]) hC dX8_step_40 (by decide) rfl ?_
      refine tr_iload hC dX8_step_42 rfl ?_
      refine tr_aload_n hC dX8_step_44 rfl rfl ?_
      refine tr_getr hC dX8_step_45 gf_X8_18 sh_182 rfl ?_
      refine tr_iload hC dX8_step_48 rfl ?_
      obtain ⟨g6, h⟩ := h
      refine tr_al (v := mem 185 v6.toNatClampNeg) hC dX8_step_50 sh_185 g6 rfl ?_
      refine tr_aload_n hC dX8_step_51 rfl rfl ?_
      refine tr_xVi (As := []) (fr2 := 0) (lo2 := 0) hC dX8_step_52 mc_X8_47 mv_X2_stayCost sh_1 rfl ⟨Nat.le_of_ble_eq_true rfl, Nat.le_of_ble_eq_true rfl, Nat.le_of_ble_eq_true rfl⟩ rfl (C_X2_stayCost _ mem ) ?_
      refine tr_iadd hC dX8_step_55 ?_
      refine tr_min hC dX8_step_56 mm_X8_28 ⟨Nat.le_of_ble_eq_true rfl, Nat.le_of_ble_eq_true rfl⟩ ?_
      refine tr_istore (loc2 := [some (.inr 182), some (.inr 1), some (.inr 10), some (.inl v3), some (.inl v4), some (.inl v5), some (.inl v6), some (.inl (mem 183 v5.toNatClampNeg)), some (.inl (imin (mem 183 v5.toNatClampNeg) ((mem 185 v6.toNatClampNeg) + (mem 1 3))))]) hC dX8_step_59 (by decide) rfl ?_
      refine tr_aload_n hC dX8_step_61 rfl rfl ?_
      refine tr_getr hC dX8_step_62 gf_X8_18 sh_182 rfl ?_
      refine tr_iload hC dX8_step_65 rfl ?_
      refine tr_ldc hC dX8_step_67 lc_X8_21 ?_
      refine tr_iload hC dX8_step_69 rfl ?_
      refine tr_aload_n hC dX8_step_71 rfl rfl ?_
      refine tr_aload_n hC dX8_step_72 rfl rfl ?_
      refine tr_iload_n hC dX8_step_73 rfl rfl ?_
      refine tr_iload hC dX8_step_74 rfl ?_
      refine tr_iload hC dX8_step_76 rfl ?_
      obtain ⟨g7, h⟩ := h
      refine tr_xVi (As := [.inl v3, .inl v4, .inl v6]) (fr2 := 0) (lo2 := 0) hC dX8_step_78 mc_X8_53 mv_X5_soundOf sh_10 rfl ⟨Nat.le_of_ble_eq_true rfl, Nat.le_of_ble_eq_true rfl, Nat.le_of_ble_eq_true rfl⟩ rfl (C_X5_soundOf _ mem v3 v4 v6 g7) ?_
      refine tr_iload hC dX8_step_81 rfl ?_
      obtain ⟨g8, h⟩ := h
      refine tr_xVi (As := [.inl (mem (12 + (Int32.toNatClampNeg ((v3 * 2) + v4))) v6.toNatClampNeg), .inl v5]) (fr2 := 0) (lo2 := 0) hC dX8_step_83 mc_X8_57 mv_X2_costAt sh_1 rfl ⟨Nat.le_of_ble_eq_true rfl, Nat.le_of_ble_eq_true rfl, Nat.le_of_ble_eq_true rfl⟩ rfl (C_X2_costAt _ mem (mem (12 + (Int32.toNatClampNeg ((v3 * 2) + v4))) v6.toNatClampNeg) v5 g8) ?_
      refine tr_iadd hC dX8_step_86 ?_
      refine tr_min hC dX8_step_87 mm_X8_28 ⟨Nat.le_of_ble_eq_true rfl, Nat.le_of_ble_eq_true rfl⟩ ?_
      refine tr_iast hC dX8_step_90 sh_185 g6 ?_
      refine tr_iinc (v := v6 + (-1)) (loc2 := [some (.inr 182), some (.inr 1), some (.inr 10), some (.inl v3), some (.inl v4), some (.inl v5), some (.inl (v6 + (-1))), some (.inl (mem 183 v5.toNatClampNeg)), some (.inl (imin (mem 183 v5.toNatClampNeg) ((mem 185 v6.toNatClampNeg) + (mem 1 3))))]) hC dX8_step_91 rfl rfl (by decide) rfl ?_
      refine tr_goto hC dX8_step_94 (tgt := 11) rfl ?_
      exact tr_weak (tl_s (tl_s (tl_s (tl_s (tl_s (tl_s (tl_s (tl_n (tl_n (tl_nil _)))))))))) h
set_option maxRecDepth 100000 in
theorem K_X8_run_182_1_10_0 {κ : TCx} {post0 : Option TV → TMem → Prop} (hC : TC κ RX8 cX8_run 9 2 51) (hT : TR κ none post0) (mem : TMem) (p1 : Int32) (p2 : Int32) (p3 : Int32) (h : ∃ post : TMem → Prop, TMv κ.1.2.1 i_J7_fill_53178 0 0 [.inr 184, .inl 1000000] mem post ∧ ∀ (m6 : TMem), post m6 → (WT κ 12 [some (.inr 182), some (.inr 1), some (.inr 10), some (.inl p1), some (.inl p2), some (.inl p3), some (.inl 0), none, none] [] m6)) : WT κ 0 [some (.inr 182), some (.inr 1), some (.inr 10), some (.inl p1), some (.inl p2), some (.inl p3), none, none, none] [] mem := by
  refine tr_aload_n hC dX8_run_0 rfl rfl ?_
  refine tr_getr hC dX8_run_1 gf_X8_15 sh_182 rfl ?_
  refine tr_ldc hC dX8_run_4 lc_X8_21 ?_
  obtain ⟨post6, hM6, h⟩ := h
  refine tr_cSv (As := [.inr 184, .inl 1000000]) (fr2 := 0) (lo2 := 0) hC dX8_run_6 mc_X8_22 mst_J7_fill_53178 ⟨Nat.le_of_ble_eq_true rfl, Nat.le_of_ble_eq_true rfl, Nat.le_of_ble_eq_true rfl⟩ rfl hM6 (fun m6 hp6 => ?_)
  replace h := h m6 hp6
  refine tr_iconst (v := 0) hC dX8_run_9 (by decide) ?_
  refine tr_istore (loc2 := [some (.inr 182), some (.inr 1), some (.inr 10), some (.inl p1), some (.inl p2), some (.inl p3), some (.inl 0), none, none]) hC dX8_run_10 (by decide) rfl ?_
  exact h
set_option maxRecDepth 100000 in
theorem K_X8_run_182_1_10_12 {κ : TCx} {post0 : Option TV → TMem → Prop} (hC : TC κ RX8 cX8_run 9 2 51) (hT : TR κ none post0) (mem : TMem) (v3 : Int32) (v4 : Int32) (v5 : Int32) (v6 : Int32) (h : G_X5_waysOf v3 ∧ (((mem 29 v3.toNatClampNeg) ≤ v6 → post0 none mem) ∧ (¬ ((mem 29 v3.toNatClampNeg) ≤ v6) → (G_X5_lengthOf v3 v6 ∧ (∃ post : TMem → Prop, TMv κ.1.2.1 i_J7_fill_53178 0 0 [.inr 185, .inl 1000000] mem post ∧ ∀ (m39 : TMem), post m39 → (WT κ 46 [some (.inr 182), some (.inr 1), some (.inr 10), some (.inl v3), some (.inl v4), some (.inl v5), some (.inl v6), some (.inl ((mem 28 (Int32.toNatClampNeg ((v3 * 2) + v6))) - 1)), some (.inl v4)] [] m39)))))) : WT κ 12 [some (.inr 182), some (.inr 1), some (.inr 10), some (.inl v3), some (.inl v4), some (.inl v5), some (.inl v6), none, none] [] mem := by
  refine tr_iload hC dX8_run_12 rfl ?_
  refine tr_aload_n hC dX8_run_14 rfl rfl ?_
  refine tr_iload_n hC dX8_run_15 rfl rfl ?_
  obtain ⟨g1, h⟩ := h
  refine tr_xVi (As := [.inl v3]) (fr2 := 0) (lo2 := 0) hC dX8_run_16 mc_X8_34 mv_X5_waysOf sh_10 rfl ⟨Nat.le_of_ble_eq_true rfl, Nat.le_of_ble_eq_true rfl, Nat.le_of_ble_eq_true rfl⟩ rfl (C_X5_waysOf _ mem v3 g1) ?_
  refine tr_icmp_ge hC dX8_run_19 (tgt := 104) rfl (fun c19 => ?_) (fun c19 => ?_)
  · replace h := h.1 c19
    exact tr_vret hC hT dX8_run_104 h
  · replace h := h.2 c19
    refine tr_aload_n hC dX8_run_22 rfl rfl ?_
    refine tr_iload_n hC dX8_run_23 rfl rfl ?_
    refine tr_iload hC dX8_run_24 rfl ?_
    obtain ⟨g2, h⟩ := h
    refine tr_xVi (As := [.inl v3, .inl v6]) (fr2 := 0) (lo2 := 0) hC dX8_run_26 mc_X8_40 mv_X5_lengthOf sh_10 rfl ⟨Nat.le_of_ble_eq_true rfl, Nat.le_of_ble_eq_true rfl, Nat.le_of_ble_eq_true rfl⟩ rfl (C_X5_lengthOf _ mem v3 v6 g2) ?_
    refine tr_iconst (v := 1) hC dX8_run_29 (by decide) ?_
    refine tr_isub hC dX8_run_30 ?_
    refine tr_istore (loc2 := [some (.inr 182), some (.inr 1), some (.inr 10), some (.inl v3), some (.inl v4), some (.inl v5), some (.inl v6), some (.inl ((mem 28 (Int32.toNatClampNeg ((v3 * 2) + v6))) - 1)), none]) hC dX8_run_31 (by decide) rfl ?_
    refine tr_aload_n hC dX8_run_33 rfl rfl ?_
    refine tr_getr hC dX8_run_34 gf_X8_18 sh_182 rfl ?_
    refine tr_ldc hC dX8_run_37 lc_X8_21 ?_
    obtain ⟨post39, hM39, h⟩ := h
    refine tr_cSv (As := [.inr 185, .inl 1000000]) (fr2 := 0) (lo2 := 0) hC dX8_run_39 mc_X8_22 mst_J7_fill_53178 ⟨Nat.le_of_ble_eq_true rfl, Nat.le_of_ble_eq_true rfl, Nat.le_of_ble_eq_true rfl⟩ rfl hM39 (fun m39 hp39 => ?_)
    replace h := h m39 hp39
    refine tr_iload hC dX8_run_42 rfl ?_
    refine tr_istore (loc2 := [some (.inr 182), some (.inr 1), some (.inr 10), some (.inl v3), some (.inl v4), some (.inl v5), some (.inl v6), some (.inl ((mem 28 (Int32.toNatClampNeg ((v3 * 2) + v6))) - 1)), some (.inl v4)]) hC dX8_run_44 (by decide) rfl ?_
    exact h
set_option maxRecDepth 100000 in
theorem K_X8_run_182_1_10_46 {κ : TCx} {post0 : Option TV → TMem → Prop} (hC : TC κ RX8 cX8_run 9 2 51) (hT : TR κ none post0) (mem : TMem) (v3 : Int32) (v4 : Int32) (v5 : Int32) (v6 : Int32) (v7 : Int32) (v8 : Int32) (h : (v5 ≤ v8 → (WT κ 12 [some (.inr 182), some (.inr 1), some (.inr 10), some (.inl v3), some (.inl v4), some (.inl v5), some (.inl (v6 + 1)), none, none] [] mem)) ∧ (¬ (v5 ≤ v8) → (∃ post : TMem → Prop, TMv κ.1.2.1 i_X8_step 1 23 [.inr 182, .inr 1, .inr 10, .inl v3, .inl v6, .inl v8] mem post ∧ ∀ (m61 : TMem), post m61 → ((vp_in (v8 + 1) 41) ∧ (vp_in v7 4 ∧ (WT κ 46 [some (.inr 182), some (.inr 1), some (.inr 10), some (.inl v3), some (.inl v4), some (.inl v5), some (.inl v6), some (.inl v7), some (.inl (v8 + 1))] [] (mset m61 184 (Int32.toNatClampNeg (v8 + 1)) (imin (m61 184 (Int32.toNatClampNeg (v8 + 1))) (m61 185 v7.toNatClampNeg))))))))) : WT κ 46 [some (.inr 182), some (.inr 1), some (.inr 10), some (.inl v3), some (.inl v4), some (.inl v5), some (.inl v6), some (.inl v7), some (.inl v8)] [] mem := by
  refine tr_iload hC dX8_run_46 rfl ?_
  refine tr_iload hC dX8_run_48 rfl ?_
  refine tr_icmp_ge hC dX8_run_50 (tgt := 98) rfl (fun c50 => ?_) (fun c50 => ?_)
  · replace h := h.1 c50
    refine tr_iinc (v := v6 + 1) (loc2 := [some (.inr 182), some (.inr 1), some (.inr 10), some (.inl v3), some (.inl v4), some (.inl v5), some (.inl (v6 + 1)), some (.inl v7), some (.inl v8)]) hC dX8_run_98 rfl rfl (by decide) rfl ?_
    refine tr_goto hC dX8_run_101 (tgt := 12) rfl ?_
    exact tr_weak (tl_s (tl_s (tl_s (tl_s (tl_s (tl_s (tl_s (tl_n (tl_n (tl_nil _)))))))))) h
  · replace h := h.2 c50
    refine tr_aload_n hC dX8_run_53 rfl rfl ?_
    refine tr_aload_n hC dX8_run_54 rfl rfl ?_
    refine tr_aload_n hC dX8_run_55 rfl rfl ?_
    refine tr_iload_n hC dX8_run_56 rfl rfl ?_
    refine tr_iload hC dX8_run_57 rfl ?_
    refine tr_iload hC dX8_run_59 rfl ?_
    obtain ⟨post61, hM61, h⟩ := h
    refine tr_cVv (As := [.inr 1, .inr 10, .inl v3, .inl v6, .inl v8]) (fr2 := 1) (lo2 := 23) hC dX8_run_61 mc_X8_43 mv_X8_step sh_182 rfl ⟨Nat.le_of_ble_eq_true rfl, Nat.le_of_ble_eq_true rfl, Nat.le_of_ble_eq_true rfl⟩ rfl hM61 (fun m61 hp61 => ?_)
    replace h := h m61 hp61
    refine tr_aload_n hC dX8_run_64 rfl rfl ?_
    refine tr_getr hC dX8_run_65 gf_X8_15 sh_182 rfl ?_
    refine tr_iload hC dX8_run_68 rfl ?_
    refine tr_iconst (v := 1) hC dX8_run_70 (by decide) ?_
    refine tr_iadd hC dX8_run_71 ?_
    refine tr_aload_n hC dX8_run_72 rfl rfl ?_
    refine tr_getr hC dX8_run_73 gf_X8_15 sh_182 rfl ?_
    refine tr_iload hC dX8_run_76 rfl ?_
    refine tr_iconst (v := 1) hC dX8_run_78 (by decide) ?_
    refine tr_iadd hC dX8_run_79 ?_
    obtain ⟨g1, h⟩ := h
    refine tr_al (v := m61 184 (Int32.toNatClampNeg (v8 + 1))) hC dX8_run_80 sh_184 g1 rfl ?_
    refine tr_aload_n hC dX8_run_81 rfl rfl ?_
    refine tr_getr hC dX8_run_82 gf_X8_18 sh_182 rfl ?_
    refine tr_iload hC dX8_run_85 rfl ?_
    obtain ⟨g2, h⟩ := h
    refine tr_al (v := m61 185 v7.toNatClampNeg) hC dX8_run_87 sh_185 g2 rfl ?_
    refine tr_min hC dX8_run_88 mm_X8_28 ⟨Nat.le_of_ble_eq_true rfl, Nat.le_of_ble_eq_true rfl⟩ ?_
    refine tr_iast hC dX8_run_91 sh_184 g1 ?_
    refine tr_iinc (v := v8 + 1) (loc2 := [some (.inr 182), some (.inr 1), some (.inr 10), some (.inl v3), some (.inl v4), some (.inl v5), some (.inl v6), some (.inl v7), some (.inl (v8 + 1))]) hC dX8_run_92 rfl rfl (by decide) rfl ?_
    refine tr_goto hC dX8_run_95 (tgt := 46) rfl ?_
    exact h
set_option maxRecDepth 100000 in
theorem K_X9_find_0 {κ : TCx} {post0 : Option TV → TMem → Prop} (hC : TC κ RX9 cX9_find 9 3 79) (hT : TR κ (some .boolean) post0) (mem : TMem) (p1 : Int32) (h : WT κ 6 [some (.inr 181), some (.inr 1), some (.inr 10), some (.inl p1), some (.inl 0), some (.inl 0), none, none, none] [] mem) : WT κ 0 [some (.inr 181), some (.inr 1), some (.inr 10), some (.inl p1), none, none, none, none, none] [] mem := by
  refine tr_iconst (v := 0) hC dX9_find_0 (by decide) ?_
  refine tr_istore (loc2 := [some (.inr 181), some (.inr 1), some (.inr 10), some (.inl p1), some (.inl 0), none, none, none, none]) hC dX9_find_1 (by decide) rfl ?_
  refine tr_iconst (v := 0) hC dX9_find_3 (by decide) ?_
  refine tr_istore (loc2 := [some (.inr 181), some (.inr 1), some (.inr 10), some (.inl p1), some (.inl 0), some (.inl 0), none, none, none]) hC dX9_find_4 (by decide) rfl ?_
  exact h
set_option maxRecDepth 100000 in
theorem K_X9_find_6 {κ : TCx} {post0 : Option TV → TMem → Prop} (hC : TC κ RX9 cX9_find 9 3 79) (hT : TR κ (some .boolean) post0) (mem : TMem) (v3 : Int32) (v4 : Int32) (v5 : Int32) (h : ((mem 1 2) ≤ v5 → (((v4 = 0 ∨ v4 = 1)) ∧ (post0 (some (.inl v4)) mem))) ∧ (¬ ((mem 1 2) ≤ v5) → (∃ post : TMem → Prop, TMv κ.1.2.1 i_X8_startNowhere 1 23 [.inr 182] mem post ∧ ∀ (m33 : TMem), post m33 → (G_X8_start_182 v5 0 ∧ (∃ post : TMem → Prop, TMv κ.1.2.1 i_X8_run 2 51 [.inr 182, .inr 1, .inr 10, .inl v3, .inl v5, .inl (imin (mem 1 2) (v5 + 20))] (mset m33 183 v5.toNatClampNeg (imin 1000000 0)) post ∧ ∀ (m57 : TMem), post m57 → (WT κ 66 [some (.inr 181), some (.inr 1), some (.inr 10), some (.inl v3), some (.inl v4), some (.inl v5), some (.inl (imin (mem 1 2) (v5 + 20))), some (.inl (v5 + 1)), none] [] m57)))))) : WT κ 6 [some (.inr 181), some (.inr 1), some (.inr 10), some (.inl v3), some (.inl v4), some (.inl v5), none, none, none] [] mem := by
  refine tr_iload hC dX9_find_6 rfl ?_
  refine tr_aload_n hC dX9_find_8 rfl rfl ?_
  refine tr_xVi (As := []) (fr2 := 0) (lo2 := 0) hC dX9_find_9 mc_X9_28 mv_X2_frames sh_1 rfl ⟨Nat.le_of_ble_eq_true rfl, Nat.le_of_ble_eq_true rfl, Nat.le_of_ble_eq_true rfl⟩ rfl (C_X2_frames _ mem ) ?_
  refine tr_icmp_ge hC dX9_find_12 (tgt := 143) rfl (fun c12 => ?_) (fun c12 => ?_)
  · replace h := h.1 c12
    refine tr_iload hC dX9_find_143 rfl ?_
    obtain ⟨g1, h⟩ := h
    exact tr_zret hC hT dX9_find_145 (nar_b g1) h
  · replace h := h.2 c12
    refine tr_aload_n hC dX9_find_15 rfl rfl ?_
    refine tr_xVi (As := []) (fr2 := 0) (lo2 := 0) hC dX9_find_16 mc_X9_28 mv_X2_frames sh_1 rfl ⟨Nat.le_of_ble_eq_true rfl, Nat.le_of_ble_eq_true rfl, Nat.le_of_ble_eq_true rfl⟩ rfl (C_X2_frames _ mem ) ?_
    refine tr_iload hC dX9_find_19 rfl ?_
    refine tr_bipush (v := 20) hC dX9_find_21 (by decide) ?_
    refine tr_iadd hC dX9_find_23 ?_
    refine tr_min hC dX9_find_24 mm_X9_34 ⟨Nat.le_of_ble_eq_true rfl, Nat.le_of_ble_eq_true rfl⟩ ?_
    refine tr_istore (loc2 := [some (.inr 181), some (.inr 1), some (.inr 10), some (.inl v3), some (.inl v4), some (.inl v5), some (.inl (imin (mem 1 2) (v5 + 20))), none, none]) hC dX9_find_27 (by decide) rfl ?_
    refine tr_aload_n hC dX9_find_29 rfl rfl ?_
    refine tr_getr hC dX9_find_30 gf_X9_12 sh_181 rfl ?_
    obtain ⟨post33, hM33, h⟩ := h
    refine tr_cVv (As := []) (fr2 := 1) (lo2 := 23) hC dX9_find_33 mc_X9_40 mv_X8_startNowhere sh_182 rfl ⟨Nat.le_of_ble_eq_true rfl, Nat.le_of_ble_eq_true rfl, Nat.le_of_ble_eq_true rfl⟩ rfl hM33 (fun m33 hp33 => ?_)
    replace h := h m33 hp33
    refine tr_aload_n hC dX9_find_36 rfl rfl ?_
    refine tr_getr hC dX9_find_37 gf_X9_12 sh_181 rfl ?_
    refine tr_iload hC dX9_find_40 rfl ?_
    refine tr_iconst (v := 0) hC dX9_find_42 (by decide) ?_
    obtain ⟨g2, h⟩ := h
    refine tr_xVv (As := [.inl v5, .inl 0]) (fr2 := 1) (lo2 := 21) hC dX9_find_43 mc_X9_43 mv_X8_start sh_182 rfl ⟨Nat.le_of_ble_eq_true rfl, Nat.le_of_ble_eq_true rfl, Nat.le_of_ble_eq_true rfl⟩ rfl (C_X8_start_182 _ m33 v5 0 g2) ?_
    refine tr_aload_n hC dX9_find_46 rfl rfl ?_
    refine tr_getr hC dX9_find_47 gf_X9_12 sh_181 rfl ?_
    refine tr_aload_n hC dX9_find_50 rfl rfl ?_
    refine tr_aload_n hC dX9_find_51 rfl rfl ?_
    refine tr_iload_n hC dX9_find_52 rfl rfl ?_
    refine tr_iload hC dX9_find_53 rfl ?_
    refine tr_iload hC dX9_find_55 rfl ?_
    obtain ⟨post57, hM57, h⟩ := h
    refine tr_cVv (As := [.inr 1, .inr 10, .inl v3, .inl v5, .inl (imin (mem 1 2) (v5 + 20))]) (fr2 := 2) (lo2 := 51) hC dX9_find_57 mc_X9_47 mv_X8_run sh_182 rfl ⟨Nat.le_of_ble_eq_true rfl, Nat.le_of_ble_eq_true rfl, Nat.le_of_ble_eq_true rfl⟩ rfl hM57 (fun m57 hp57 => ?_)
    replace h := h m57 hp57
    refine tr_iload hC dX9_find_60 rfl ?_
    refine tr_iconst (v := 1) hC dX9_find_62 (by decide) ?_
    refine tr_iadd hC dX9_find_63 ?_
    refine tr_istore (loc2 := [some (.inr 181), some (.inr 1), some (.inr 10), some (.inl v3), some (.inl v4), some (.inl v5), some (.inl (imin (mem 1 2) (v5 + 20))), some (.inl (v5 + 1)), none]) hC dX9_find_64 (by decide) rfl ?_
    exact h
set_option maxRecDepth 100000 in
theorem K_X9_find_66 {κ : TCx} {post0 : Option TV → TMem → Prop} (hC : TC κ RX9 cX9_find 9 3 79) (hT : TR κ (some .boolean) post0) (mem : TMem) (v3 : Int32) (v4 : Int32) (v5 : Int32) (v6 : Int32) (v7 : Int32) (h : (v6 < v7 → (WT κ 6 [some (.inr 181), some (.inr 1), some (.inr 10), some (.inl v3), some (.inl v4), some (.inl (v5 + 1)), none, none, none] [] mem)) ∧ (¬ (v6 < v7) → (G_X8_endAt_182 v7 ∧ ((1000000 ≤ (mem 184 v7.toNatClampNeg) → (WT κ 66 [some (.inr 181), some (.inr 1), some (.inr 10), some (.inl v3), some (.inl v4), some (.inl v5), some (.inl v6), some (.inl (v7 + 1)), none] [] mem)) ∧ (¬ (1000000 ≤ (mem 184 v7.toNatClampNeg)) → ((v4 = 0 → (WT κ 66 [some (.inr 181), some (.inr 1), some (.inr 10), some (.inl v3), some (.inl 1), some (.inl v5), some (.inl v6), some (.inl (v7 + 1)), none] [] (mset (mset (mset mem 181 1 v5) 181 2 v7) 181 3 (mem 184 v7.toNatClampNeg)))) ∧ (¬ (v4 = 0) → (((F_X9_isCheaper mem (mem 184 v7.toNatClampNeg) (v7 - v5)) = 0 → (WT κ 66 [some (.inr 181), some (.inr 1), some (.inr 10), some (.inl v3), some (.inl v4), some (.inl v5), some (.inl v6), some (.inl (v7 + 1)), none] [] mem)) ∧ (¬ ((F_X9_isCheaper mem (mem 184 v7.toNatClampNeg) (v7 - v5)) = 0) → (WT κ 66 [some (.inr 181), some (.inr 1), some (.inr 10), some (.inl v3), some (.inl 1), some (.inl v5), some (.inl v6), some (.inl (v7 + 1)), none] [] (mset (mset (mset mem 181 1 v5) 181 2 v7) 181 3 (mem 184 v7.toNatClampNeg)))))))))))) : WT κ 66 [some (.inr 181), some (.inr 1), some (.inr 10), some (.inl v3), some (.inl v4), some (.inl v5), some (.inl v6), some (.inl v7), none] [] mem := by
  refine tr_iload hC dX9_find_66 rfl ?_
  refine tr_iload hC dX9_find_68 rfl ?_
  refine tr_icmp_gt hC dX9_find_70 (tgt := 137) rfl (fun c70 => ?_) (fun c70 => ?_)
  · replace h := h.1 c70
    refine tr_iinc (v := v5 + 1) (loc2 := [some (.inr 181), some (.inr 1), some (.inr 10), some (.inl v3), some (.inl v4), some (.inl (v5 + 1)), some (.inl v6), some (.inl v7), none]) hC dX9_find_137 rfl rfl (by decide) rfl ?_
    refine tr_goto hC dX9_find_140 (tgt := 6) rfl ?_
    exact tr_weak (tl_s (tl_s (tl_s (tl_s (tl_s (tl_s (tl_n (tl_n (tl_n (tl_nil _)))))))))) h
  · replace h := h.2 c70
    refine tr_aload_n hC dX9_find_73 rfl rfl ?_
    refine tr_getr hC dX9_find_74 gf_X9_12 sh_181 rfl ?_
    refine tr_iload hC dX9_find_77 rfl ?_
    obtain ⟨g1, h⟩ := h
    refine tr_xVi (As := [.inl v7]) (fr2 := 0) (lo2 := 0) hC dX9_find_79 mc_X9_51 mv_X8_endAt sh_182 rfl ⟨Nat.le_of_ble_eq_true rfl, Nat.le_of_ble_eq_true rfl, Nat.le_of_ble_eq_true rfl⟩ rfl (C_X8_endAt_182 _ mem v7 g1) ?_
    refine tr_istore (loc2 := [some (.inr 181), some (.inr 1), some (.inr 10), some (.inl v3), some (.inl v4), some (.inl v5), some (.inl v6), some (.inl v7), some (.inl (mem 184 v7.toNatClampNeg))]) hC dX9_find_82 (by decide) rfl ?_
    refine tr_iload hC dX9_find_84 rfl ?_
    refine tr_ldc hC dX9_find_86 lc_X9_55 ?_
    refine tr_icmp_ge hC dX9_find_88 (tgt := 131) rfl (fun c88 => ?_) (fun c88 => ?_)
    · replace h := h.1 c88
      refine tr_iinc (v := v7 + 1) (loc2 := [some (.inr 181), some (.inr 1), some (.inr 10), some (.inl v3), some (.inl v4), some (.inl v5), some (.inl v6), some (.inl (v7 + 1)), some (.inl (mem 184 v7.toNatClampNeg))]) hC dX9_find_131 rfl rfl (by decide) rfl ?_
      refine tr_goto hC dX9_find_134 (tgt := 66) rfl ?_
      exact tr_weak (tl_s (tl_s (tl_s (tl_s (tl_s (tl_s (tl_s (tl_s (tl_n (tl_nil _)))))))))) h
    · replace h := h.2 c88
      refine tr_iload hC dX9_find_91 rfl ?_
      refine tr_if_eq hC dX9_find_93 (tgt := 110) rfl (fun c93 => ?_) (fun c93 => ?_)
      · replace h := h.1 c93
        refine tr_aload_n hC dX9_find_110 rfl rfl ?_
        refine tr_iload hC dX9_find_111 rfl ?_
        refine tr_puti hC dX9_find_113 gp_X9_18 sh_181 rfl rfl rfl ?_
        refine tr_aload_n hC dX9_find_116 rfl rfl ?_
        refine tr_iload hC dX9_find_117 rfl ?_
        refine tr_puti hC dX9_find_119 gp_X9_22 sh_181 rfl rfl rfl ?_
        refine tr_aload_n hC dX9_find_122 rfl rfl ?_
        refine tr_iload hC dX9_find_123 rfl ?_
        refine tr_puti hC dX9_find_125 gp_X9_25 sh_181 rfl rfl rfl ?_
        refine tr_iconst (v := 1) hC dX9_find_128 (by decide) ?_
        refine tr_istore (loc2 := [some (.inr 181), some (.inr 1), some (.inr 10), some (.inl v3), some (.inl 1), some (.inl v5), some (.inl v6), some (.inl v7), some (.inl (mem 184 v7.toNatClampNeg))]) hC dX9_find_129 (by decide) rfl ?_
        refine tr_iinc (v := v7 + 1) (loc2 := [some (.inr 181), some (.inr 1), some (.inr 10), some (.inl v3), some (.inl 1), some (.inl v5), some (.inl v6), some (.inl (v7 + 1)), some (.inl (mem 184 v7.toNatClampNeg))]) hC dX9_find_131 rfl rfl (by decide) rfl ?_
        refine tr_goto hC dX9_find_134 (tgt := 66) rfl ?_
        exact tr_weak (tl_s (tl_s (tl_s (tl_s (tl_s (tl_s (tl_s (tl_s (tl_n (tl_nil _)))))))))) h
      · replace h := h.2 c93
        refine tr_aload_n hC dX9_find_96 rfl rfl ?_
        refine tr_iload hC dX9_find_97 rfl ?_
        refine tr_iload hC dX9_find_99 rfl ?_
        refine tr_iload hC dX9_find_101 rfl ?_
        refine tr_isub hC dX9_find_103 ?_
        refine tr_xVi (As := [.inl (mem 184 v7.toNatClampNeg), .inl (v7 - v5)]) (fr2 := 0) (lo2 := 0) hC dX9_find_104 mc_X9_56 mv_X9_isCheaper sh_181 rfl ⟨Nat.le_of_ble_eq_true rfl, Nat.le_of_ble_eq_true rfl, Nat.le_of_ble_eq_true rfl⟩ rfl (C_X9_isCheaper _ mem (mem 184 v7.toNatClampNeg) (v7 - v5)) ?_
        refine tr_if_eq hC dX9_find_107 (tgt := 131) rfl (fun c107 => ?_) (fun c107 => ?_)
        · replace h := h.1 c107
          refine tr_iinc (v := v7 + 1) (loc2 := [some (.inr 181), some (.inr 1), some (.inr 10), some (.inl v3), some (.inl v4), some (.inl v5), some (.inl v6), some (.inl (v7 + 1)), some (.inl (mem 184 v7.toNatClampNeg))]) hC dX9_find_131 rfl rfl (by decide) rfl ?_
          refine tr_goto hC dX9_find_134 (tgt := 66) rfl ?_
          exact tr_weak (tl_s (tl_s (tl_s (tl_s (tl_s (tl_s (tl_s (tl_s (tl_n (tl_nil _)))))))))) h
        · replace h := h.2 c107
          refine tr_aload_n hC dX9_find_110 rfl rfl ?_
          refine tr_iload hC dX9_find_111 rfl ?_
          refine tr_puti hC dX9_find_113 gp_X9_18 sh_181 rfl rfl rfl ?_
          refine tr_aload_n hC dX9_find_116 rfl rfl ?_
          refine tr_iload hC dX9_find_117 rfl ?_
          refine tr_puti hC dX9_find_119 gp_X9_22 sh_181 rfl rfl rfl ?_
          refine tr_aload_n hC dX9_find_122 rfl rfl ?_
          refine tr_iload hC dX9_find_123 rfl ?_
          refine tr_puti hC dX9_find_125 gp_X9_25 sh_181 rfl rfl rfl ?_
          refine tr_iconst (v := 1) hC dX9_find_128 (by decide) ?_
          refine tr_istore (loc2 := [some (.inr 181), some (.inr 1), some (.inr 10), some (.inl v3), some (.inl 1), some (.inl v5), some (.inl v6), some (.inl v7), some (.inl (mem 184 v7.toNatClampNeg))]) hC dX9_find_129 (by decide) rfl ?_
          refine tr_iinc (v := v7 + 1) (loc2 := [some (.inr 181), some (.inr 1), some (.inr 10), some (.inl v3), some (.inl 1), some (.inl v5), some (.inl v6), some (.inl (v7 + 1)), some (.inl (mem 184 v7.toNatClampNeg))]) hC dX9_find_131 rfl rfl (by decide) rfl ?_
          refine tr_goto hC dX9_find_134 (tgt := 66) rfl ?_
          exact tr_weak (tl_s (tl_s (tl_s (tl_s (tl_s (tl_s (tl_s (tl_s (tl_n (tl_nil _)))))))))) h
set_option maxRecDepth 100000 in
theorem K_X10_spot_0 {κ : TCx} {post0 : Option TV → TMem → Prop} (hC : TC κ RX10 cX10_spot 3 4 107) (hT : TR κ (some .int) post0) (mem : TMem) (p1 : Int32) (p2 : Int32) (h : ((F_X10_within p1 0 ((mem 10 4) - 1)) = 0 → (post0 (some (.inl (-2))) mem)) ∧ (¬ ((F_X10_within p1 0 ((mem 10 4) - 1)) = 0) → (((F_X10_within p2 0 2) = 0 → (post0 (some (.inl (-2))) mem)) ∧ (¬ ((F_X10_within p2 0 2) = 0) → (∃ post : Int32 → TMem → Prop, TMi κ.1.2.1 i_X9_find 3 79 [.inr 181, .inr 1, .inr 10, .inl p1] mem post ∧ ∀ (x33 : Int32) (m33 : TMem), post x33 m33 → ((x33 = 0 → (post0 (some (.inl (-3))) m33)) ∧ (¬ (x33 = 0) → ((p2 = 0 → post0 (some (.inl (m33 181 1))) m33) ∧ (¬ (p2 = 0) → ((p2 = 1 → post0 (some (.inl (m33 181 2))) m33) ∧ (¬ (p2 = 1) → post0 (some (.inl (m33 181 3))) m33))))))))))) : WT κ 0 [some (.inr 0), some (.inl p1), some (.inl p2)] [] mem := by
  refine tr_aload_n hC dX10_spot_0 rfl rfl ?_
  refine tr_iload_n hC dX10_spot_1 rfl rfl ?_
  refine tr_xVi (As := [.inl p1]) (fr2 := 1) (lo2 := 22) hC dX10_spot_2 mc_X10_126 mv_X10_isWord sh_0 rfl ⟨Nat.le_of_ble_eq_true rfl, Nat.le_of_ble_eq_true rfl, Nat.le_of_ble_eq_true rfl⟩ rfl (C_X10_isWord _ mem p1) ?_
  refine tr_if_eq hC dX10_spot_5 (tgt := 17) rfl (fun c5 => ?_) (fun c5 => ?_)
  · replace h := h.1 c5
    refine tr_bipush (v := (-2)) hC dX10_spot_17 (by decide) ?_
    exact tr_iret hC hT dX10_spot_19 h
  · replace h := h.2 c5
    refine tr_iload_n hC dX10_spot_8 rfl rfl ?_
    refine tr_iconst (v := 0) hC dX10_spot_9 (by decide) ?_
    refine tr_iconst (v := 2) hC dX10_spot_10 (by decide) ?_
    refine tr_xSi (As := [.inl p2, .inl 0, .inl 2]) (fr2 := 0) (lo2 := 0) hC dX10_spot_11 mc_X10_94 mst_X10_within ⟨Nat.le_of_ble_eq_true rfl, Nat.le_of_ble_eq_true rfl, Nat.le_of_ble_eq_true rfl⟩ rfl (C_X10_within _ mem p2 0 2) ?_
    refine tr_if_ne hC dX10_spot_14 (tgt := 20) rfl (fun c14 => ?_) (fun c14 => ?_)
    · replace h := h.2 c14
      refine tr_aload_n hC dX10_spot_20 rfl rfl ?_
      refine tr_getr hC dX10_spot_21 gf_X10_63 sh_0 rfl ?_
      refine tr_aload_n hC dX10_spot_24 rfl rfl ?_
      refine tr_getr hC dX10_spot_25 gf_X10_10 sh_0 rfl ?_
      refine tr_aload_n hC dX10_spot_28 rfl rfl ?_
      refine tr_getr hC dX10_spot_29 gf_X10_19 sh_0 rfl ?_
      refine tr_iload_n hC dX10_spot_32 rfl rfl ?_
      obtain ⟨post33, hM33, h⟩ := h
      refine tr_cVi (As := [.inr 1, .inr 10, .inl p1]) (fr2 := 3) (lo2 := 79) hC dX10_spot_33 mc_X10_206 mv_X9_find sh_181 rfl ⟨Nat.le_of_ble_eq_true rfl, Nat.le_of_ble_eq_true rfl, Nat.le_of_ble_eq_true rfl⟩ rfl hM33 (fun x33 m33 hp33 => ?_)
      replace h := h x33 m33 hp33
      refine tr_if_ne hC dX10_spot_36 (tgt := 42) rfl (fun c36 => ?_) (fun c36 => ?_)
      · replace h := h.2 c36
        refine tr_iload_n hC dX10_spot_42 rfl rfl ?_
        refine tr_if_ne hC dX10_spot_43 (tgt := 54) rfl (fun c43 => ?_) (fun c43 => ?_)
        · replace h := h.2 c43
          refine tr_iload_n hC dX10_spot_54 rfl rfl ?_
          refine tr_iconst (v := 1) hC dX10_spot_55 (by decide) ?_
          refine tr_icmp_ne hC dX10_spot_56 (tgt := 69) rfl (fun c56 => ?_) (fun c56 => ?_)
          · replace h := h.2 c56
            refine tr_aload_n hC dX10_spot_69 rfl rfl ?_
            refine tr_getr hC dX10_spot_70 gf_X10_63 sh_0 rfl ?_
            refine tr_xVi (As := []) (fr2 := 0) (lo2 := 0) hC dX10_spot_73 mc_X10_214 mv_X9_price sh_181 rfl ⟨Nat.le_of_ble_eq_true rfl, Nat.le_of_ble_eq_true rfl, Nat.le_of_ble_eq_true rfl⟩ rfl (C_X9_price _ m33 ) ?_
            exact tr_iret hC hT dX10_spot_76 h
          · replace h := h.1 c56
            refine tr_aload_n hC dX10_spot_59 rfl rfl ?_
            refine tr_getr hC dX10_spot_60 gf_X10_63 sh_0 rfl ?_
            refine tr_xVi (As := []) (fr2 := 0) (lo2 := 0) hC dX10_spot_63 mc_X10_212 mv_X9_end sh_181 rfl ⟨Nat.le_of_ble_eq_true rfl, Nat.le_of_ble_eq_true rfl, Nat.le_of_ble_eq_true rfl⟩ rfl (C_X9_end _ m33 ) ?_
            refine tr_goto hC dX10_spot_66 (tgt := 76) rfl ?_
            exact tr_iret hC hT dX10_spot_76 h
        · replace h := h.1 c43
          refine tr_aload_n hC dX10_spot_46 rfl rfl ?_
          refine tr_getr hC dX10_spot_47 gf_X10_63 sh_0 rfl ?_
          refine tr_xVi (As := []) (fr2 := 0) (lo2 := 0) hC dX10_spot_50 mc_X10_209 mv_X9_begin sh_181 rfl ⟨Nat.le_of_ble_eq_true rfl, Nat.le_of_ble_eq_true rfl, Nat.le_of_ble_eq_true rfl⟩ rfl (C_X9_begin _ m33 ) ?_
          exact tr_iret hC hT dX10_spot_53 h
      · replace h := h.1 c36
        refine tr_bipush (v := (-3)) hC dX10_spot_39 (by decide) ?_
        exact tr_iret hC hT dX10_spot_41 h
    · replace h := h.1 c14
      refine tr_bipush (v := (-2)) hC dX10_spot_17 (by decide) ?_
      exact tr_iret hC hT dX10_spot_19 h
set_option maxRecDepth 100000 in
theorem K_X0_begin_0 {κ : TCx} {post0 : Option TV → TMem → Prop} (hC : TC κ RX0 cX0_begin 4 2 43) (hT : TR κ (some .int) post0) (mem : TMem) (h : WT κ 4 [some (.inr 186), some (.inr 1), some (.inl 0), some (.inl 0)] [] mem) : WT κ 0 [some (.inr 186), some (.inr 1), none, none] [] mem := by
  refine tr_iconst (v := 0) hC dX0_begin_0 (by decide) ?_
  refine tr_istore_n (loc2 := [some (.inr 186), some (.inr 1), some (.inl 0), none]) hC dX0_begin_1 rfl (by decide) rfl ?_
  refine tr_iconst (v := 0) hC dX0_begin_2 (by decide) ?_
  refine tr_istore_n (loc2 := [some (.inr 186), some (.inr 1), some (.inl 0), some (.inl 0)]) hC dX0_begin_3 rfl (by decide) rfl ?_
  exact h
set_option maxRecDepth 100000 in
theorem K_X0_begin_4 {κ : TCx} {post0 : Option TV → TMem → Prop} (hC : TC κ RX0 cX0_begin 4 2 43) (hT : TR κ (some .int) post0) (mem : TMem) (v2 : Int32) (v3 : Int32) (h : ((mem 1 2) ≤ v3 → (post0 (some (.inl (-1))) mem)) ∧ (¬ ((mem 1 2) ≤ v3) → (G_X0_isLoud v3 ∧ (((F_X0_isLoud mem v3) = 0 → ((0 = (mem 186 1) → (post0 (some (.inl ((v3 + 1) - (mem 186 1)))) mem)) ∧ (¬ (0 = (mem 186 1)) → (WT κ 4 [some (.inr 186), some (.inr 1), some (.inl 0), some (.inl (v3 + 1))] [] mem)))) ∧ (¬ ((F_X0_isLoud mem v3) = 0) → (((v2 + 1) = (mem 186 1) → (post0 (some (.inl ((v3 + 1) - (mem 186 1)))) mem)) ∧ (¬ ((v2 + 1) = (mem 186 1)) → (WT κ 4 [some (.inr 186), some (.inr 1), some (.inl (v2 + 1)), some (.inl (v3 + 1))] [] mem)))))))) : WT κ 4 [some (.inr 186), some (.inr 1), some (.inl v2), some (.inl v3)] [] mem := by
  refine tr_iload_n hC dX0_begin_4 rfl rfl ?_
  refine tr_aload_n hC dX0_begin_5 rfl rfl ?_
  refine tr_xVi (As := []) (fr2 := 0) (lo2 := 0) hC dX0_begin_6 mc_X0_21 mv_X2_frames sh_1 rfl ⟨Nat.le_of_ble_eq_true rfl, Nat.le_of_ble_eq_true rfl, Nat.le_of_ble_eq_true rfl⟩ rfl (C_X2_frames _ mem ) ?_
  refine tr_icmp_ge hC dX0_begin_9 (tgt := 52) rfl (fun c9 => ?_) (fun c9 => ?_)
  · replace h := h.1 c9
    refine tr_iconst (v := (-1)) hC dX0_begin_52 (by decide) ?_
    exact tr_iret hC hT dX0_begin_53 h
  · replace h := h.2 c9
    refine tr_aload_n hC dX0_begin_12 rfl rfl ?_
    refine tr_aload_n hC dX0_begin_13 rfl rfl ?_
    refine tr_iload_n hC dX0_begin_14 rfl rfl ?_
    obtain ⟨g1, h⟩ := h
    refine tr_xVi (As := [.inr 1, .inl v3]) (fr2 := 1) (lo2 := 21) hC dX0_begin_15 mc_X0_27 mv_X0_isLoud sh_186 rfl ⟨Nat.le_of_ble_eq_true rfl, Nat.le_of_ble_eq_true rfl, Nat.le_of_ble_eq_true rfl⟩ rfl (C_X0_isLoud _ mem v3 g1) ?_
    refine tr_if_eq hC dX0_begin_18 (tgt := 27) rfl (fun c18 => ?_) (fun c18 => ?_)
    · replace h := h.1 c18
      refine tr_iconst (v := 0) hC dX0_begin_27 (by decide) ?_
      refine tr_istore_n (loc2 := [some (.inr 186), some (.inr 1), some (.inl 0), some (.inl v3)]) hC dX0_begin_28 rfl (by decide) rfl ?_
      refine tr_iload_n hC dX0_begin_29 rfl rfl ?_
      refine tr_aload_n hC dX0_begin_30 rfl rfl ?_
      refine tr_gi (v := mem 186 1) hC dX0_begin_31 gf_X0_15 sh_186 rfl rfl ?_
      refine tr_icmp_ne hC dX0_begin_34 (tgt := 46) rfl (fun c34 => ?_) (fun c34 => ?_)
      · replace h := h.2 c34
        refine tr_iinc (v := v3 + 1) (loc2 := [some (.inr 186), some (.inr 1), some (.inl 0), some (.inl (v3 + 1))]) hC dX0_begin_46 rfl rfl (by decide) rfl ?_
        refine tr_goto hC dX0_begin_49 (tgt := 4) rfl ?_
        exact h
      · replace h := h.1 c34
        refine tr_iload_n hC dX0_begin_37 rfl rfl ?_
        refine tr_iconst (v := 1) hC dX0_begin_38 (by decide) ?_
        refine tr_iadd hC dX0_begin_39 ?_
        refine tr_aload_n hC dX0_begin_40 rfl rfl ?_
        refine tr_gi (v := mem 186 1) hC dX0_begin_41 gf_X0_15 sh_186 rfl rfl ?_
        refine tr_isub hC dX0_begin_44 ?_
        exact tr_iret hC hT dX0_begin_45 h
    · replace h := h.2 c18
      refine tr_iload_n hC dX0_begin_21 rfl rfl ?_
      refine tr_iconst (v := 1) hC dX0_begin_22 (by decide) ?_
      refine tr_iadd hC dX0_begin_23 ?_
      refine tr_goto hC dX0_begin_24 (tgt := 28) rfl ?_
      refine tr_istore_n (loc2 := [some (.inr 186), some (.inr 1), some (.inl (v2 + 1)), some (.inl v3)]) hC dX0_begin_28 rfl (by decide) rfl ?_
      refine tr_iload_n hC dX0_begin_29 rfl rfl ?_
      refine tr_aload_n hC dX0_begin_30 rfl rfl ?_
      refine tr_gi (v := mem 186 1) hC dX0_begin_31 gf_X0_15 sh_186 rfl rfl ?_
      refine tr_icmp_ne hC dX0_begin_34 (tgt := 46) rfl (fun c34 => ?_) (fun c34 => ?_)
      · replace h := h.2 c34
        refine tr_iinc (v := v3 + 1) (loc2 := [some (.inr 186), some (.inr 1), some (.inl (v2 + 1)), some (.inl (v3 + 1))]) hC dX0_begin_46 rfl rfl (by decide) rfl ?_
        refine tr_goto hC dX0_begin_49 (tgt := 4) rfl ?_
        exact h
      · replace h := h.1 c34
        refine tr_iload_n hC dX0_begin_37 rfl rfl ?_
        refine tr_iconst (v := 1) hC dX0_begin_38 (by decide) ?_
        refine tr_iadd hC dX0_begin_39 ?_
        refine tr_aload_n hC dX0_begin_40 rfl rfl ?_
        refine tr_gi (v := mem 186 1) hC dX0_begin_41 gf_X0_15 sh_186 rfl rfl ?_
        refine tr_isub hC dX0_begin_44 ?_
        exact tr_iret hC hT dX0_begin_45 h
set_option maxRecDepth 100000 in
theorem K_X0_endBehind_0 {κ : TCx} {post0 : Option TV → TMem → Prop} (hC : TC κ RX0 cX0_endBehind 5 2 43) (hT : TR κ (some .int) post0) (mem : TMem) (p1 : Int32) (h : WT κ 5 [some (.inr 186), some (.inr 1), none, some (.inl 0), some (.inl p1)] [] mem) : WT κ 0 [some (.inr 186), some (.inr 1), some (.inl p1), none, none] [] mem := by
  refine tr_iconst (v := 0) hC dX0_endBehind_0 (by decide) ?_
  refine tr_istore_n (loc2 := [some (.inr 186), some (.inr 1), some (.inl p1), some (.inl 0), none]) hC dX0_endBehind_1 rfl (by decide) rfl ?_
  refine tr_iload_n hC dX0_endBehind_2 rfl rfl ?_
  refine tr_istore (loc2 := [some (.inr 186), some (.inr 1), some (.inl p1), some (.inl 0), some (.inl p1)]) hC dX0_endBehind_3 (by decide) rfl ?_
  exact tr_weak (tl_s (tl_s (tl_n (tl_s (tl_s (tl_nil _)))))) h
set_option maxRecDepth 100000 in
theorem K_X0_endBehind_5 {κ : TCx} {post0 : Option TV → TMem → Prop} (hC : TC κ RX0 cX0_endBehind 5 2 43) (hT : TR κ (some .int) post0) (mem : TMem) (v3 : Int32) (v4 : Int32) (h : ((mem 1 2) ≤ v4 → post0 (some (.inl (mem 1 2))) mem) ∧ (¬ ((mem 1 2) ≤ v4) → (G_X0_isLoud v4 ∧ (((F_X0_isLoud mem v4) = 0 → (((v3 + 1) = (mem 186 2) → (post0 (some (.inl ((v4 + 1) - (mem 186 2)))) mem)) ∧ (¬ ((v3 + 1) = (mem 186 2)) → (WT κ 5 [some (.inr 186), some (.inr 1), none, some (.inl (v3 + 1)), some (.inl (v4 + 1))] [] mem)))) ∧ (¬ ((F_X0_isLoud mem v4) = 0) → ((0 = (mem 186 2) → (post0 (some (.inl ((v4 + 1) - (mem 186 2)))) mem)) ∧ (¬ (0 = (mem 186 2)) → (WT κ 5 [some (.inr 186), some (.inr 1), none, some (.inl 0), some (.inl (v4 + 1))] [] mem)))))))) : WT κ 5 [some (.inr 186), some (.inr 1), none, some (.inl v3), some (.inl v4)] [] mem := by
  refine tr_iload hC dX0_endBehind_5 rfl ?_
  refine tr_aload_n hC dX0_endBehind_7 rfl rfl ?_
  refine tr_xVi (As := []) (fr2 := 0) (lo2 := 0) hC dX0_endBehind_8 mc_X0_21 mv_X2_frames sh_1 rfl ⟨Nat.le_of_ble_eq_true rfl, Nat.le_of_ble_eq_true rfl, Nat.le_of_ble_eq_true rfl⟩ rfl (C_X2_frames _ mem ) ?_
  refine tr_icmp_ge hC dX0_endBehind_11 (tgt := 56) rfl (fun c11 => ?_) (fun c11 => ?_)
  · replace h := h.1 c11
    refine tr_aload_n hC dX0_endBehind_56 rfl rfl ?_
    refine tr_xVi (As := []) (fr2 := 0) (lo2 := 0) hC dX0_endBehind_57 mc_X0_21 mv_X2_frames sh_1 rfl ⟨Nat.le_of_ble_eq_true rfl, Nat.le_of_ble_eq_true rfl, Nat.le_of_ble_eq_true rfl⟩ rfl (C_X2_frames _ mem ) ?_
    exact tr_iret hC hT dX0_endBehind_60 h
  · replace h := h.2 c11
    refine tr_aload_n hC dX0_endBehind_14 rfl rfl ?_
    refine tr_aload_n hC dX0_endBehind_15 rfl rfl ?_
    refine tr_iload hC dX0_endBehind_16 rfl ?_
    obtain ⟨g1, h⟩ := h
    refine tr_xVi (As := [.inr 1, .inl v4]) (fr2 := 1) (lo2 := 21) hC dX0_endBehind_18 mc_X0_27 mv_X0_isLoud sh_186 rfl ⟨Nat.le_of_ble_eq_true rfl, Nat.le_of_ble_eq_true rfl, Nat.le_of_ble_eq_true rfl⟩ rfl (C_X0_isLoud _ mem v4 g1) ?_
    refine tr_if_eq hC dX0_endBehind_21 (tgt := 28) rfl (fun c21 => ?_) (fun c21 => ?_)
    · replace h := h.1 c21
      refine tr_iload_n hC dX0_endBehind_28 rfl rfl ?_
      refine tr_iconst (v := 1) hC dX0_endBehind_29 (by decide) ?_
      refine tr_iadd hC dX0_endBehind_30 ?_
      refine tr_istore_n (loc2 := [some (.inr 186), some (.inr 1), none, some (.inl (v3 + 1)), some (.inl v4)]) hC dX0_endBehind_31 rfl (by decide) rfl ?_
      refine tr_iload_n hC dX0_endBehind_32 rfl rfl ?_
      refine tr_aload_n hC dX0_endBehind_33 rfl rfl ?_
      refine tr_gi (v := mem 186 2) hC dX0_endBehind_34 gf_X0_18 sh_186 rfl rfl ?_
      refine tr_icmp_ne hC dX0_endBehind_37 (tgt := 50) rfl (fun c37 => ?_) (fun c37 => ?_)
      · replace h := h.2 c37
        refine tr_iinc (v := v4 + 1) (loc2 := [some (.inr 186), some (.inr 1), none, some (.inl (v3 + 1)), some (.inl (v4 + 1))]) hC dX0_endBehind_50 rfl rfl (by decide) rfl ?_
        refine tr_goto hC dX0_endBehind_53 (tgt := 5) rfl ?_
        exact h
      · replace h := h.1 c37
        refine tr_iload hC dX0_endBehind_40 rfl ?_
        refine tr_iconst (v := 1) hC dX0_endBehind_42 (by decide) ?_
        refine tr_iadd hC dX0_endBehind_43 ?_
        refine tr_aload_n hC dX0_endBehind_44 rfl rfl ?_
        refine tr_gi (v := mem 186 2) hC dX0_endBehind_45 gf_X0_18 sh_186 rfl rfl ?_
        refine tr_isub hC dX0_endBehind_48 ?_
        exact tr_iret hC hT dX0_endBehind_49 h
    · replace h := h.2 c21
      refine tr_iconst (v := 0) hC dX0_endBehind_24 (by decide) ?_
      refine tr_goto hC dX0_endBehind_25 (tgt := 31) rfl ?_
      refine tr_istore_n (loc2 := [some (.inr 186), some (.inr 1), none, some (.inl 0), some (.inl v4)]) hC dX0_endBehind_31 rfl (by decide) rfl ?_
      refine tr_iload_n hC dX0_endBehind_32 rfl rfl ?_
      refine tr_aload_n hC dX0_endBehind_33 rfl rfl ?_
      refine tr_gi (v := mem 186 2) hC dX0_endBehind_34 gf_X0_18 sh_186 rfl rfl ?_
      refine tr_icmp_ne hC dX0_endBehind_37 (tgt := 50) rfl (fun c37 => ?_) (fun c37 => ?_)
      · replace h := h.2 c37
        refine tr_iinc (v := v4 + 1) (loc2 := [some (.inr 186), some (.inr 1), none, some (.inl 0), some (.inl (v4 + 1))]) hC dX0_endBehind_50 rfl rfl (by decide) rfl ?_
        refine tr_goto hC dX0_endBehind_53 (tgt := 5) rfl ?_
        exact h
      · replace h := h.1 c37
        refine tr_iload hC dX0_endBehind_40 rfl ?_
        refine tr_iconst (v := 1) hC dX0_endBehind_42 (by decide) ?_
        refine tr_iadd hC dX0_endBehind_43 ?_
        refine tr_aload_n hC dX0_endBehind_44 rfl rfl ?_
        refine tr_gi (v := mem 186 2) hC dX0_endBehind_45 gf_X0_18 sh_186 rfl rfl ?_
        refine tr_isub hC dX0_endBehind_48 ?_
        exact tr_iret hC hT dX0_endBehind_49 h
set_option maxRecDepth 100000 in
theorem K_X10_speech_0 {κ : TCx} {post0 : Option TV → TMem → Prop} (hC : TC κ RX10 cX10_speech 3 3 67) (hT : TR κ (some .int) post0) (mem : TMem) (p1 : Int32) (h : ((F_X10_within p1 0 1) = 0 → (post0 (some (.inl (-2))) mem)) ∧ (¬ ((F_X10_within p1 0 1) = 0) → (∃ post : Int32 → TMem → Prop, TMi κ.1.2.1 i_X0_begin 2 43 [.inr 186, .inr 1] mem post ∧ ∀ (x20 : Int32) (m20 : TMem), post x20 m20 → ((x20 = (-1) → (post0 (some (.inl (-3))) m20)) ∧ (¬ (x20 = (-1)) → ((p1 = 0 → post0 (some (.inl x20)) m20) ∧ (¬ (p1 = 0) → (∃ post : Int32 → TMem → Prop, TMi κ.1.2.1 i_X0_endBehind 2 43 [.inr 186, .inr 1, .inl x20] m20 post ∧ ∀ (x49 : Int32) (m49 : TMem), post x49 m49 → post0 (some (.inl x49)) m49)))))))) : WT κ 0 [some (.inr 0), some (.inl p1), none] [] mem := by
  refine tr_iload_n hC dX10_speech_0 rfl rfl ?_
  refine tr_iconst (v := 0) hC dX10_speech_1 (by decide) ?_
  refine tr_iconst (v := 1) hC dX10_speech_2 (by decide) ?_
  refine tr_xSi (As := [.inl p1, .inl 0, .inl 1]) (fr2 := 0) (lo2 := 0) hC dX10_speech_3 mc_X10_94 mst_X10_within ⟨Nat.le_of_ble_eq_true rfl, Nat.le_of_ble_eq_true rfl, Nat.le_of_ble_eq_true rfl⟩ rfl (C_X10_within _ mem p1 0 1) ?_
  refine tr_if_ne hC dX10_speech_6 (tgt := 12) rfl (fun c6 => ?_) (fun c6 => ?_)
  · replace h := h.2 c6
    refine tr_aload_n hC dX10_speech_12 rfl rfl ?_
    refine tr_getr hC dX10_speech_13 gf_X10_70 sh_0 rfl ?_
    refine tr_aload_n hC dX10_speech_16 rfl rfl ?_
    refine tr_getr hC dX10_speech_17 gf_X10_10 sh_0 rfl ?_
    obtain ⟨post20, hM20, h⟩ := h
    refine tr_cVi (As := [.inr 1]) (fr2 := 2) (lo2 := 43) hC dX10_speech_20 mc_X10_220 mv_X0_begin sh_186 rfl ⟨Nat.le_of_ble_eq_true rfl, Nat.le_of_ble_eq_true rfl, Nat.le_of_ble_eq_true rfl⟩ rfl hM20 (fun x20 m20 hp20 => ?_)
    replace h := h x20 m20 hp20
    refine tr_istore_n (loc2 := [some (.inr 0), some (.inl p1), some (.inl x20)]) hC dX10_speech_23 rfl (by decide) rfl ?_
    refine tr_iload_n hC dX10_speech_24 rfl rfl ?_
    refine tr_iconst (v := (-1)) hC dX10_speech_25 (by decide) ?_
    refine tr_icmp_ne hC dX10_speech_26 (tgt := 32) rfl (fun c26 => ?_) (fun c26 => ?_)
    · replace h := h.2 c26
      refine tr_iload_n hC dX10_speech_32 rfl rfl ?_
      refine tr_if_ne hC dX10_speech_33 (tgt := 40) rfl (fun c33 => ?_) (fun c33 => ?_)
      · replace h := h.2 c33
        refine tr_aload_n hC dX10_speech_40 rfl rfl ?_
        refine tr_getr hC dX10_speech_41 gf_X10_70 sh_0 rfl ?_
        refine tr_aload_n hC dX10_speech_44 rfl rfl ?_
        refine tr_getr hC dX10_speech_45 gf_X10_10 sh_0 rfl ?_
        refine tr_iload_n hC dX10_speech_48 rfl rfl ?_
        obtain ⟨post49, hM49, h⟩ := h
        refine tr_cVi (As := [.inr 1, .inl x20]) (fr2 := 2) (lo2 := 43) hC dX10_speech_49 mc_X10_222 mv_X0_endBehind sh_186 rfl ⟨Nat.le_of_ble_eq_true rfl, Nat.le_of_ble_eq_true rfl, Nat.le_of_ble_eq_true rfl⟩ rfl hM49 (fun x49 m49 hp49 => ?_)
        replace h := h x49 m49 hp49
        exact tr_iret hC hT dX10_speech_52 h
      · replace h := h.1 c33
        refine tr_iload_n hC dX10_speech_36 rfl rfl ?_
        refine tr_goto hC dX10_speech_37 (tgt := 52) rfl ?_
        exact tr_iret hC hT dX10_speech_52 h
    · replace h := h.1 c26
      refine tr_bipush (v := (-3)) hC dX10_speech_29 (by decide) ?_
      exact tr_iret hC hT dX10_speech_31 h
  · replace h := h.1 c6
    refine tr_bipush (v := (-2)) hC dX10_speech_9 (by decide) ?_
    exact tr_iret hC hT dX10_speech_11 h
