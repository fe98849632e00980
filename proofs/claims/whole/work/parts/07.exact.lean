set_option maxRecDepth 100000 in
theorem C_X2_frames (l : Launch) (mem : TMem)  : TMi l i_X2_frames 0 0 [.inr 1] mem (fun x m => x = mem 1 2 ∧ m = mem) := by
  refine tw_met (by decide) (Nat.le_of_ble_eq_true rfl) (fun κ hl hC hT => ?_)
  subst hl
  show WT κ 0 [some (.inr 1)] [] mem
  refine tr_aload_n hC dX2_frames_0 rfl rfl ?_
  refine tr_gi (v := mem 1 2) hC dX2_frames_1 gf_X2_20 sh_1 rfl rfl ?_
  exact tr_iret hC hT dX2_frames_4 ⟨_, rfl, rfl, rfl⟩
set_option maxRecDepth 100000 in
theorem C_X6_end (l : Launch) (mem : TMem)  : TMv l i_X6_end 0 0 [.inr 40] mem (fun m => m = (mset mem 40 6 0)) := by
  refine tw_met (by decide) (Nat.le_of_ble_eq_true rfl) (fun κ hl hC hT => ?_)
  subst hl
  show WT κ 0 [some (.inr 40)] [] mem
  refine tr_aload_n hC dX6_end_0 rfl rfl ?_
  refine tr_iconst (v := 0) hC dX6_end_1 (by decide) ?_
  refine tr_puti hC dX6_end_2 gp_X6_44 sh_40 rfl (by decide) (by decide) ?_
  exact tr_vret hC hT dX6_end_5 ⟨rfl, rfl⟩
set_option maxRecDepth 100000 in
theorem C_X3_end (l : Launch) (mem : TMem)  : TMv l i_X3_end 0 0 [.inr 108] mem (fun m => m = (mset mem 108 5 0)) := by
  refine tw_met (by decide) (Nat.le_of_ble_eq_true rfl) (fun κ hl hC hT => ?_)
  subst hl
  show WT κ 0 [some (.inr 108)] [] mem
  refine tr_aload_n hC dX3_end_0 rfl rfl ?_
  refine tr_iconst (v := 0) hC dX3_end_1 (by decide) ?_
  refine tr_puti hC dX3_end_2 gp_X3_30 sh_108 rfl (by decide) (by decide) ?_
  exact tr_vret hC hT dX3_end_5 ⟨rfl, rfl⟩
set_option maxRecDepth 100000 in
theorem C_X10_endWhatLeansOnThis (l : Launch) (mem : TMem)  : TMv l i_X10_endWhatLeansOnThis 1 20 [.inr 0] mem (fun m => m = (mset (mset mem 40 6 0) 108 5 0)) := by
  refine tw_met (by decide) (Nat.le_of_ble_eq_true rfl) (fun κ hl hC hT => ?_)
  subst hl
  show WT κ 0 [some (.inr 0)] [] mem
  refine tr_aload_n hC dX10_endWhatLeansOnThis_0 rfl rfl ?_
  refine tr_getr hC dX10_endWhatLeansOnThis_1 gf_X10_26 sh_0 rfl ?_
  refine tr_xVv (As := []) (fr2 := 0) (lo2 := 0) hC dX10_endWhatLeansOnThis_4 mc_X10_226 mv_X6_end sh_40 rfl ⟨Nat.le_of_ble_eq_true rfl, Nat.le_of_ble_eq_true rfl, Nat.le_of_ble_eq_true rfl⟩ rfl (C_X6_end _ mem ) ?_
  refine tr_aload_n hC dX10_endWhatLeansOnThis_7 rfl rfl ?_
  refine tr_getr hC dX10_endWhatLeansOnThis_8 gf_X10_42 sh_0 rfl ?_
  refine tr_xVv (As := []) (fr2 := 0) (lo2 := 0) hC dX10_endWhatLeansOnThis_11 mc_X10_164 mv_X3_end sh_108 rfl ⟨Nat.le_of_ble_eq_true rfl, Nat.le_of_ble_eq_true rfl, Nat.le_of_ble_eq_true rfl⟩ rfl (C_X3_end _ (mset mem 40 6 0) ) ?_
  exact tr_vret hC hT dX10_endWhatLeansOnThis_14 ⟨rfl, rfl⟩
def G_X2_add (mem : TMem) (p1 : Int32) : Prop := (¬ (40 ≤ (mem 1 2)) → vp_in (mem 1 2) 40)
def M_X2_add (mem : TMem) (p1 : Int32) : TMem := if 40 ≤ (mem 1 2) then mem else (mset (mset mem 2 (Int32.toNatClampNeg (mem 1 2)) p1) 1 2 ((mem 1 2) + 1))
set_option maxRecDepth 100000 in
theorem C_X2_add (l : Launch) (mem : TMem) (p1 : Int32) (hG : G_X2_add mem p1) : TMv l i_X2_add 0 0 [.inr 1, .inl p1] mem (fun m => m = M_X2_add mem p1) := by
  refine tw_met (by decide) (Nat.le_of_ble_eq_true rfl) (fun κ hl hC hT => ?_)
  subst hl
  unfold G_X2_add at hG
  show WT κ 0 [some (.inr 1), some (.inl p1)] [] mem
  refine tr_aload_n hC dX2_add_0 rfl rfl ?_
  refine tr_gi (v := mem 1 2) hC dX2_add_1 gf_X2_20 sh_1 rfl rfl ?_
  refine tr_bipush (v := 40) hC dX2_add_4 (by decide) ?_
  refine tr_icmp_ge hC dX2_add_6 (tgt := 29) rfl (fun c6 => ?_) (fun c6 => ?_)
  · exact tr_vret hC hT dX2_add_29 ⟨rfl, (by rw [M_X2_add, if_pos c6])⟩
  · have hG := hG c6
    refine tr_aload_n hC dX2_add_9 rfl rfl ?_
    refine tr_getr hC dX2_add_10 gf_X2_9 sh_1 rfl ?_
    refine tr_aload_n hC dX2_add_13 rfl rfl ?_
    refine tr_gi (v := mem 1 2) hC dX2_add_14 gf_X2_20 sh_1 rfl rfl ?_
    refine tr_iload_n hC dX2_add_17 rfl rfl ?_
    have g1 := hG
    refine tr_iast hC dX2_add_18 sh_2 g1 ?_
    refine tr_aload_n hC dX2_add_19 rfl rfl ?_
    refine tr_dup hC dX2_add_20 ?_
    refine tr_gi (v := mem 1 2) hC dX2_add_21 gf_X2_20 sh_1 rfl (ms_ne (by decide)) ?_
    refine tr_iconst (v := 1) hC dX2_add_24 (by decide) ?_
    refine tr_iadd hC dX2_add_25 ?_
    refine tr_puti hC dX2_add_26 gp_X2_20 sh_1 rfl rfl rfl ?_
    exact tr_vret hC hT dX2_add_29 ⟨rfl, (by rw [M_X2_add, if_neg c6])⟩
def F_X10_within (p1 : Int32) (p2 : Int32) (p3 : Int32) : Int32 := if p1 < p2 then 0 else if p3 < p1 then 0 else 1
theorem B_X10_within (p1 : Int32) (p2 : Int32) (p3 : Int32) : F_X10_within p1 p2 p3 = 0 ∨ F_X10_within p1 p2 p3 = 1 := by
  unfold F_X10_within
  repeat (first | (split) | (exact Or.inl rfl) | (exact Or.inr rfl))
set_option maxRecDepth 100000 in
theorem C_X10_within (l : Launch) (mem : TMem) (p1 : Int32) (p2 : Int32) (p3 : Int32) : TMi l i_X10_within 0 0 [.inl p1, .inl p2, .inl p3] mem (fun x m => x = F_X10_within p1 p2 p3 ∧ m = mem) := by
  refine tw_met (by decide) (Nat.le_of_ble_eq_true rfl) (fun κ hl hC hT => ?_)
  subst hl
  show WT κ 0 [some (.inl p1), some (.inl p2), some (.inl p3)] [] mem
  refine tr_iload_n hC dX10_within_0 rfl rfl ?_
  refine tr_iload_n hC dX10_within_1 rfl rfl ?_
  refine tr_icmp_lt hC dX10_within_2 (tgt := 14) rfl (fun c2 => ?_) (fun c2 => ?_)
  · refine tr_iconst (v := 0) hC dX10_within_14 (by decide) ?_
    exact tr_zret hC hT dX10_within_15 (nar_b (by decide)) ⟨_, rfl, (by rw [F_X10_within, if_pos c2]), rfl⟩
  · refine tr_iload_n hC dX10_within_5 rfl rfl ?_
    refine tr_iload_n hC dX10_within_6 rfl rfl ?_
    refine tr_icmp_gt hC dX10_within_7 (tgt := 14) rfl (fun c7 => ?_) (fun c7 => ?_)
    · refine tr_iconst (v := 0) hC dX10_within_14 (by decide) ?_
      exact tr_zret hC hT dX10_within_15 (nar_b (by decide)) ⟨_, rfl, (by rw [F_X10_within, if_neg c2, if_pos c7]), rfl⟩
    · refine tr_iconst (v := 1) hC dX10_within_10 (by decide) ?_
      refine tr_goto hC dX10_within_11 (tgt := 15) rfl ?_
      exact tr_zret hC hT dX10_within_15 (nar_b (by decide)) ⟨_, rfl, (by rw [F_X10_within, if_neg c2, if_neg c7]), rfl⟩
set_option maxRecDepth 100000 in
theorem C_X10_isMark (l : Launch) (mem : TMem) (p1 : Int32) : TMi l i_X10_isMark 1 22 [.inl p1] mem (fun x m => x = F_X10_within p1 0 7 ∧ m = mem) := by
  refine tw_met (by decide) (Nat.le_of_ble_eq_true rfl) (fun κ hl hC hT => ?_)
  subst hl
  show WT κ 0 [some (.inl p1)] [] mem
  refine tr_iload_n hC dX10_isMark_0 rfl rfl ?_
  refine tr_iconst (v := 0) hC dX10_isMark_1 (by decide) ?_
  refine tr_bipush (v := 7) hC dX10_isMark_2 (by decide) ?_
  refine tr_xSi (As := [.inl p1, .inl 0, .inl 7]) (fr2 := 0) (lo2 := 0) hC dX10_isMark_4 mc_X10_94 mst_X10_within ⟨Nat.le_of_ble_eq_true rfl, Nat.le_of_ble_eq_true rfl, Nat.le_of_ble_eq_true rfl⟩ rfl (C_X10_within _ mem p1 0 7) ?_
  exact tr_zret hC hT dX10_isMark_7 (nar_b (B_X10_within p1 0 7)) ⟨_, rfl, rfl, rfl⟩
def G_X10_feed (mem : TMem) (p1 : Int32) : Prop := (p1 = (-1) → (((mem 1 2) < 40 → G_X2_add (mset (mset mem 40 6 0) 108 5 0) p1))) ∧ (¬ (p1 = (-1)) → ((¬ ((F_X10_within p1 0 7) = 0) → (((mem 1 2) < 40 → G_X2_add (mset (mset mem 40 6 0) 108 5 0) p1)))))
def F_X10_feed (mem : TMem) (p1 : Int32) : Int32 := if p1 = (-1) then if (mem 1 2) < 40 then (M_X2_add (mset (mset mem 40 6 0) 108 5 0) p1) 1 2 else (-4) else if (F_X10_within p1 0 7) = 0 then (-2) else if (mem 1 2) < 40 then (M_X2_add (mset (mset mem 40 6 0) 108 5 0) p1) 1 2 else (-4)
def M_X10_feed (mem : TMem) (p1 : Int32) : TMem := if p1 = (-1) then if (mem 1 2) < 40 then (M_X2_add (mset (mset mem 40 6 0) 108 5 0) p1) else mem else if (F_X10_within p1 0 7) = 0 then mem else if (mem 1 2) < 40 then (M_X2_add (mset (mset mem 40 6 0) 108 5 0) p1) else mem
set_option maxRecDepth 100000 in
theorem C_X10_feed (l : Launch) (mem : TMem) (p1 : Int32) (hG : G_X10_feed mem p1) : TMi l i_X10_feed 2 42 [.inr 0, .inl p1] mem (fun x m => x = F_X10_feed mem p1 ∧ m = M_X10_feed mem p1) := by
  refine tw_met (by decide) (Nat.le_of_ble_eq_true rfl) (fun κ hl hC hT => ?_)
  subst hl
  unfold G_X10_feed at hG
  show WT κ 0 [some (.inr 0), some (.inl p1)] [] mem
  refine tr_iload_n hC dX10_feed_0 rfl rfl ?_
  refine tr_iconst (v := (-1)) hC dX10_feed_1 (by decide) ?_
  refine tr_icmp_eq hC dX10_feed_2 (tgt := 15) rfl (fun c2 => ?_) (fun c2 => ?_)
  · have hG := hG.1 c2
    refine tr_aload_n hC dX10_feed_15 rfl rfl ?_
    refine tr_getr hC dX10_feed_16 gf_X10_10 sh_0 rfl ?_
    refine tr_xVi (As := []) (fr2 := 0) (lo2 := 0) hC dX10_feed_19 mc_X10_78 mv_X2_frames sh_1 rfl ⟨Nat.le_of_ble_eq_true rfl, Nat.le_of_ble_eq_true rfl, Nat.le_of_ble_eq_true rfl⟩ rfl (C_X2_frames _ mem ) ?_
    refine tr_bipush (v := 40) hC dX10_feed_22 (by decide) ?_
    refine tr_icmp_lt hC dX10_feed_24 (tgt := 30) rfl (fun c24 => ?_) (fun c24 => ?_)
    · have hG := hG c24
      refine tr_aload_n hC dX10_feed_30 rfl rfl ?_
      refine tr_xVv (As := []) (fr2 := 1) (lo2 := 20) hC dX10_feed_31 mc_X10_82 mv_X10_endWhatLeansOnThis sh_0 rfl ⟨Nat.le_of_ble_eq_true rfl, Nat.le_of_ble_eq_true rfl, Nat.le_of_ble_eq_true rfl⟩ rfl (C_X10_endWhatLeansOnThis _ mem ) ?_
      refine tr_aload_n hC dX10_feed_34 rfl rfl ?_
      refine tr_getr hC dX10_feed_35 gf_X10_10 sh_0 rfl ?_
      refine tr_iload_n hC dX10_feed_38 rfl rfl ?_
      have g1 := hG
      refine tr_xVv (As := [.inl p1]) (fr2 := 0) (lo2 := 0) hC dX10_feed_39 mc_X10_85 mv_X2_add sh_1 rfl ⟨Nat.le_of_ble_eq_true rfl, Nat.le_of_ble_eq_true rfl, Nat.le_of_ble_eq_true rfl⟩ rfl (C_X2_add _ (mset (mset mem 40 6 0) 108 5 0) p1 g1) ?_
      refine tr_aload_n hC dX10_feed_42 rfl rfl ?_
      refine tr_getr hC dX10_feed_43 gf_X10_10 sh_0 rfl ?_
      refine tr_xVi (As := []) (fr2 := 0) (lo2 := 0) hC dX10_feed_46 mc_X10_78 mv_X2_frames sh_1 rfl ⟨Nat.le_of_ble_eq_true rfl, Nat.le_of_ble_eq_true rfl, Nat.le_of_ble_eq_true rfl⟩ rfl (C_X2_frames _ (M_X2_add (mset (mset mem 40 6 0) 108 5 0) p1) ) ?_
      exact tr_iret hC hT dX10_feed_49 ⟨_, rfl, (by rw [F_X10_feed, if_pos c2, if_pos c24]), (by rw [M_X10_feed, if_pos c2, if_pos c24])⟩
    · refine tr_bipush (v := (-4)) hC dX10_feed_27 (by decide) ?_
      exact tr_iret hC hT dX10_feed_29 ⟨_, rfl, (by rw [F_X10_feed, if_pos c2, if_neg c24]), (by rw [M_X10_feed, if_pos c2, if_neg c24])⟩
  · have hG := hG.2 c2
    refine tr_iload_n hC dX10_feed_5 rfl rfl ?_
    refine tr_xSi (As := [.inl p1]) (fr2 := 1) (lo2 := 22) hC dX10_feed_6 mc_X10_74 mst_X10_isMark ⟨Nat.le_of_ble_eq_true rfl, Nat.le_of_ble_eq_true rfl, Nat.le_of_ble_eq_true rfl⟩ rfl (C_X10_isMark _ mem p1) ?_
    refine tr_if_ne hC dX10_feed_9 (tgt := 15) rfl (fun c9 => ?_) (fun c9 => ?_)
    · have hG := hG c9
      refine tr_aload_n hC dX10_feed_15 rfl rfl ?_
      refine tr_getr hC dX10_feed_16 gf_X10_10 sh_0 rfl ?_
      refine tr_xVi (As := []) (fr2 := 0) (lo2 := 0) hC dX10_feed_19 mc_X10_78 mv_X2_frames sh_1 rfl ⟨Nat.le_of_ble_eq_true rfl, Nat.le_of_ble_eq_true rfl, Nat.le_of_ble_eq_true rfl⟩ rfl (C_X2_frames _ mem ) ?_
      refine tr_bipush (v := 40) hC dX10_feed_22 (by decide) ?_
      refine tr_icmp_lt hC dX10_feed_24 (tgt := 30) rfl (fun c24 => ?_) (fun c24 => ?_)
      · have hG := hG c24
        refine tr_aload_n hC dX10_feed_30 rfl rfl ?_
        refine tr_xVv (As := []) (fr2 := 1) (lo2 := 20) hC dX10_feed_31 mc_X10_82 mv_X10_endWhatLeansOnThis sh_0 rfl ⟨Nat.le_of_ble_eq_true rfl, Nat.le_of_ble_eq_true rfl, Nat.le_of_ble_eq_true rfl⟩ rfl (C_X10_endWhatLeansOnThis _ mem ) ?_
        refine tr_aload_n hC dX10_feed_34 rfl rfl ?_
        refine tr_getr hC dX10_feed_35 gf_X10_10 sh_0 rfl ?_
        refine tr_iload_n hC dX10_feed_38 rfl rfl ?_
        have g2 := hG
        refine tr_xVv (As := [.inl p1]) (fr2 := 0) (lo2 := 0) hC dX10_feed_39 mc_X10_85 mv_X2_add sh_1 rfl ⟨Nat.le_of_ble_eq_true rfl, Nat.le_of_ble_eq_true rfl, Nat.le_of_ble_eq_true rfl⟩ rfl (C_X2_add _ (mset (mset mem 40 6 0) 108 5 0) p1 g2) ?_
        refine tr_aload_n hC dX10_feed_42 rfl rfl ?_
        refine tr_getr hC dX10_feed_43 gf_X10_10 sh_0 rfl ?_
        refine tr_xVi (As := []) (fr2 := 0) (lo2 := 0) hC dX10_feed_46 mc_X10_78 mv_X2_frames sh_1 rfl ⟨Nat.le_of_ble_eq_true rfl, Nat.le_of_ble_eq_true rfl, Nat.le_of_ble_eq_true rfl⟩ rfl (C_X2_frames _ (M_X2_add (mset (mset mem 40 6 0) 108 5 0) p1) ) ?_
        exact tr_iret hC hT dX10_feed_49 ⟨_, rfl, (by rw [F_X10_feed, if_neg c2, if_neg c9, if_pos c24]), (by rw [M_X10_feed, if_neg c2, if_neg c9, if_pos c24])⟩
      · refine tr_bipush (v := (-4)) hC dX10_feed_27 (by decide) ?_
        exact tr_iret hC hT dX10_feed_29 ⟨_, rfl, (by rw [F_X10_feed, if_neg c2, if_neg c9, if_neg c24]), (by rw [M_X10_feed, if_neg c2, if_neg c9, if_neg c24])⟩
    · refine tr_bipush (v := (-2)) hC dX10_feed_12 (by decide) ?_
      exact tr_iret hC hT dX10_feed_14 ⟨_, rfl, (by rw [F_X10_feed, if_neg c2, if_pos c9]), (by rw [M_X10_feed, if_neg c2, if_pos c9])⟩
def F_X11_in (p1 : Int32) (p2 : Int32) (p3 : Int32) : Int32 := if p1 < p2 then 0 else if p3 < p1 then 0 else 1
theorem B_X11_in (p1 : Int32) (p2 : Int32) (p3 : Int32) : F_X11_in p1 p2 p3 = 0 ∨ F_X11_in p1 p2 p3 = 1 := by
  unfold F_X11_in
  repeat (first | (split) | (exact Or.inl rfl) | (exact Or.inr rfl))
set_option maxRecDepth 100000 in
theorem C_X11_in (l : Launch) (mem : TMem) (p1 : Int32) (p2 : Int32) (p3 : Int32) : TMi l i_X11_in 0 0 [.inl p1, .inl p2, .inl p3] mem (fun x m => x = F_X11_in p1 p2 p3 ∧ m = mem) := by
  refine tw_met (by decide) (Nat.le_of_ble_eq_true rfl) (fun κ hl hC hT => ?_)
  subst hl
  show WT κ 0 [some (.inl p1), some (.inl p2), some (.inl p3)] [] mem
  refine tr_iload_n hC dX11_in_0 rfl rfl ?_
  refine tr_iload_n hC dX11_in_1 rfl rfl ?_
  refine tr_icmp_lt hC dX11_in_2 (tgt := 14) rfl (fun c2 => ?_) (fun c2 => ?_)
  · refine tr_iconst (v := 0) hC dX11_in_14 (by decide) ?_
    exact tr_zret hC hT dX11_in_15 (nar_b (by decide)) ⟨_, rfl, (by rw [F_X11_in, if_pos c2]), rfl⟩
  · refine tr_iload_n hC dX11_in_5 rfl rfl ?_
    refine tr_iload_n hC dX11_in_6 rfl rfl ?_
    refine tr_icmp_gt hC dX11_in_7 (tgt := 14) rfl (fun c7 => ?_) (fun c7 => ?_)
    · refine tr_iconst (v := 0) hC dX11_in_14 (by decide) ?_
      exact tr_zret hC hT dX11_in_15 (nar_b (by decide)) ⟨_, rfl, (by rw [F_X11_in, if_neg c2, if_pos c7]), rfl⟩
    · refine tr_iconst (v := 1) hC dX11_in_10 (by decide) ?_
      refine tr_goto hC dX11_in_11 (tgt := 15) rfl ?_
      exact tr_zret hC hT dX11_in_15 (nar_b (by decide)) ⟨_, rfl, (by rw [F_X11_in, if_neg c2, if_neg c7]), rfl⟩
def G_X11_feed (mem : TMem) (p1 : Int32) : Prop := (¬ ((F_X11_in p1 (-1) 7) = 0) → ((¬ ((mem 187 0) = 40) → vp_in (mem 187 0) 40)))
def F_X11_feed (mem : TMem) (p1 : Int32) : Int32 := if (F_X11_in p1 (-1) 7) = 0 then (-2) else if (mem 187 0) = 40 then (-4) else (mem 187 0) + 1
def M_X11_feed (mem : TMem) (p1 : Int32) : TMem := if (F_X11_in p1 (-1) 7) = 0 then mem else if (mem 187 0) = 40 then mem else (mset (mset (mset mem 188 (Int32.toNatClampNeg (mem 187 0)) p1) 187 0 ((mem 187 0) + 1)) 187 11 0)
set_option maxRecDepth 100000 in
theorem C_X11_feed (l : Launch) (mem : TMem) (p1 : Int32) (hG : G_X11_feed mem p1) : TMi l i_X11_feed 1 22 [.inr 187, .inl p1] mem (fun x m => x = F_X11_feed mem p1 ∧ m = M_X11_feed mem p1) := by
  refine tw_met (by decide) (Nat.le_of_ble_eq_true rfl) (fun κ hl hC hT => ?_)
  subst hl
  unfold G_X11_feed at hG
  show WT κ 0 [some (.inr 187), some (.inl p1)] [] mem
  refine tr_iload_n hC dX11_feed_0 rfl rfl ?_
  refine tr_iconst (v := (-1)) hC dX11_feed_1 (by decide) ?_
  refine tr_bipush (v := 7) hC dX11_feed_2 (by decide) ?_
  refine tr_xSi (As := [.inl p1, .inl (-1), .inl 7]) (fr2 := 0) (lo2 := 0) hC dX11_feed_4 mc_X11_89 mst_X11_in ⟨Nat.le_of_ble_eq_true rfl, Nat.le_of_ble_eq_true rfl, Nat.le_of_ble_eq_true rfl⟩ rfl (C_X11_in _ mem p1 (-1) 7) ?_
  refine tr_if_ne hC dX11_feed_7 (tgt := 13) rfl (fun c7 => ?_) (fun c7 => ?_)
  · have hG := hG c7
    refine tr_aload_n hC dX11_feed_13 rfl rfl ?_
    refine tr_gi (v := mem 187 0) hC dX11_feed_14 gf_X11_93 sh_187 rfl rfl ?_
    refine tr_bipush (v := 40) hC dX11_feed_17 (by decide) ?_
    refine tr_icmp_ne hC dX11_feed_19 (tgt := 25) rfl (fun c19 => ?_) (fun c19 => ?_)
    · have hG := hG c19
      refine tr_aload_n hC dX11_feed_25 rfl rfl ?_
      refine tr_getr hC dX11_feed_26 gf_X11_7 sh_187 rfl ?_
      refine tr_aload_n hC dX11_feed_29 rfl rfl ?_
      refine tr_gi (v := mem 187 0) hC dX11_feed_30 gf_X11_93 sh_187 rfl rfl ?_
      refine tr_iload_n hC dX11_feed_33 rfl rfl ?_
      have g1 := hG
      refine tr_iast hC dX11_feed_34 sh_188 g1 ?_
      refine tr_aload_n hC dX11_feed_35 rfl rfl ?_
      refine tr_dup hC dX11_feed_36 ?_
      refine tr_gi (v := mem 187 0) hC dX11_feed_37 gf_X11_93 sh_187 rfl (ms_ne (by decide)) ?_
      refine tr_iconst (v := 1) hC dX11_feed_40 (by decide) ?_
      refine tr_iadd hC dX11_feed_41 ?_
      refine tr_puti hC dX11_feed_42 gp_X11_93 sh_187 rfl rfl rfl ?_
      refine tr_aload_n hC dX11_feed_45 rfl rfl ?_
      refine tr_iconst (v := 0) hC dX11_feed_46 (by decide) ?_
      refine tr_puti hC dX11_feed_47 gp_X11_96 sh_187 rfl (by decide) (by decide) ?_
      refine tr_aload_n hC dX11_feed_50 rfl rfl ?_
      refine tr_gi (v := (mem 187 0) + 1) hC dX11_feed_51 gf_X11_93 sh_187 rfl ((ms_sl (by decide)).trans (ms_eq)) ?_
      exact tr_iret hC hT dX11_feed_54 ⟨_, rfl, (by rw [F_X11_feed, if_neg c7, if_neg c19]), (by rw [M_X11_feed, if_neg c7, if_neg c19])⟩
    · refine tr_bipush (v := (-4)) hC dX11_feed_22 (by decide) ?_
      exact tr_iret hC hT dX11_feed_24 ⟨_, rfl, (by rw [F_X11_feed, if_neg c7, if_pos c19]), (by rw [M_X11_feed, if_neg c7, if_pos c19])⟩
  · refine tr_bipush (v := (-2)) hC dX11_feed_10 (by decide) ?_
    exact tr_iret hC hT dX11_feed_12 ⟨_, rfl, (by rw [F_X11_feed, if_pos c7]), (by rw [M_X11_feed, if_pos c7])⟩
set_option maxRecDepth 100000 in
theorem C_X2_clear (l : Launch) (mem : TMem)  : TMv l i_X2_clear 0 0 [.inr 1] mem (fun m => m = (mset mem 1 2 0)) := by
  refine tw_met (by decide) (Nat.le_of_ble_eq_true rfl) (fun κ hl hC hT => ?_)
  subst hl
  show WT κ 0 [some (.inr 1)] [] mem
  refine tr_aload_n hC dX2_clear_0 rfl rfl ?_
  refine tr_iconst (v := 0) hC dX2_clear_1 (by decide) ?_
  refine tr_puti hC dX2_clear_2 gp_X2_20 sh_1 rfl rfl rfl ?_
  exact tr_vret hC hT dX2_clear_5 ⟨rfl, rfl⟩
set_option maxRecDepth 100000 in
theorem C_X10_hush (l : Launch) (mem : TMem)  : TMi l i_X10_hush 2 40 [.inr 0] mem (fun x m => x = mem 1 2 ∧ m = (mset (mset (mset mem 40 6 0) 108 5 0) 1 2 0)) := by
  refine tw_met (by decide) (Nat.le_of_ble_eq_true rfl) (fun κ hl hC hT => ?_)
  subst hl
  show WT κ 0 [some (.inr 0), none] [] mem
  refine tr_aload_n hC dX10_hush_0 rfl rfl ?_
  refine tr_getr hC dX10_hush_1 gf_X10_10 sh_0 rfl ?_
  refine tr_xVi (As := []) (fr2 := 0) (lo2 := 0) hC dX10_hush_4 mc_X10_78 mv_X2_frames sh_1 rfl ⟨Nat.le_of_ble_eq_true rfl, Nat.le_of_ble_eq_true rfl, Nat.le_of_ble_eq_true rfl⟩ rfl (C_X2_frames _ mem ) ?_
  refine tr_istore_n (loc2 := [some (.inr 0), some (.inl (mem 1 2))]) hC dX10_hush_7 rfl (by decide) rfl ?_
  refine tr_aload_n hC dX10_hush_8 rfl rfl ?_
  refine tr_xVv (As := []) (fr2 := 1) (lo2 := 20) hC dX10_hush_9 mc_X10_82 mv_X10_endWhatLeansOnThis sh_0 rfl ⟨Nat.le_of_ble_eq_true rfl, Nat.le_of_ble_eq_true rfl, Nat.le_of_ble_eq_true rfl⟩ rfl (C_X10_endWhatLeansOnThis _ mem ) ?_
  refine tr_aload_n hC dX10_hush_12 rfl rfl ?_
  refine tr_getr hC dX10_hush_13 gf_X10_10 sh_0 rfl ?_
  refine tr_xVv (As := []) (fr2 := 0) (lo2 := 0) hC dX10_hush_16 mc_X10_88 mv_X2_clear sh_1 rfl ⟨Nat.le_of_ble_eq_true rfl, Nat.le_of_ble_eq_true rfl, Nat.le_of_ble_eq_true rfl⟩ rfl (C_X2_clear _ (mset (mset mem 40 6 0) 108 5 0) ) ?_
  refine tr_iload_n hC dX10_hush_19 rfl rfl ?_
  exact tr_iret hC hT dX10_hush_20 ⟨_, rfl, rfl, rfl⟩
set_option maxRecDepth 100000 in
theorem C_X11_hush (l : Launch) (mem : TMem)  : TMi l i_X11_hush 0 0 [.inr 187] mem (fun x m => x = mem 187 0 ∧ m = (mset (mset mem 187 0 0) 187 11 0)) := by
  refine tw_met (by decide) (Nat.le_of_ble_eq_true rfl) (fun κ hl hC hT => ?_)
  subst hl
  show WT κ 0 [some (.inr 187), none] [] mem
  refine tr_aload_n hC dX11_hush_0 rfl rfl ?_
  refine tr_gi (v := mem 187 0) hC dX11_hush_1 gf_X11_93 sh_187 rfl rfl ?_
  refine tr_istore_n (loc2 := [some (.inr 187), some (.inl (mem 187 0))]) hC dX11_hush_4 rfl (by decide) rfl ?_
  refine tr_aload_n hC dX11_hush_5 rfl rfl ?_
  refine tr_iconst (v := 0) hC dX11_hush_6 (by decide) ?_
  refine tr_puti hC dX11_hush_7 gp_X11_93 sh_187 rfl rfl rfl ?_
  refine tr_aload_n hC dX11_hush_10 rfl rfl ?_
  refine tr_iconst (v := 0) hC dX11_hush_11 (by decide) ?_
  refine tr_puti hC dX11_hush_12 gp_X11_96 sh_187 rfl (by decide) (by decide) ?_
  refine tr_iload_n hC dX11_hush_15 rfl rfl ?_
  exact tr_iret hC hT dX11_hush_16 ⟨_, rfl, rfl, rfl⟩
set_option maxRecDepth 100000 in
theorem C_X10_isSound (l : Launch) (mem : TMem) (p1 : Int32) : TMi l i_X10_isSound 1 22 [.inl p1] mem (fun x m => x = F_X10_within p1 0 5 ∧ m = mem) := by
  refine tw_met (by decide) (Nat.le_of_ble_eq_true rfl) (fun κ hl hC hT => ?_)
  subst hl
  show WT κ 0 [some (.inl p1)] [] mem
  refine tr_iload_n hC dX10_isSound_0 rfl rfl ?_
  refine tr_iconst (v := 0) hC dX10_isSound_1 (by decide) ?_
  refine tr_iconst (v := 5) hC dX10_isSound_2 (by decide) ?_
  refine tr_xSi (As := [.inl p1, .inl 0, .inl 5]) (fr2 := 0) (lo2 := 0) hC dX10_isSound_3 mc_X10_94 mst_X10_within ⟨Nat.le_of_ble_eq_true rfl, Nat.le_of_ble_eq_true rfl, Nat.le_of_ble_eq_true rfl⟩ rfl (C_X10_within _ mem p1 0 5) ?_
  exact tr_zret hC hT dX10_isSound_6 (nar_b (B_X10_within p1 0 5)) ⟨_, rfl, rfl, rfl⟩
def G_X2_costOf (p1 : Int32) (p2 : Int32) : Prop := vp_in p1 6 ∧ vp_in p2 8
set_option maxRecDepth 100000 in
theorem C_X2_costOf (l : Launch) (mem : TMem) (p1 : Int32) (p2 : Int32) (hG : G_X2_costOf p1 p2) : TMi l i_X2_costOf 0 0 [.inr 1, .inl p1, .inl p2] mem (fun x m => x = mem (4 + p1.toNatClampNeg) p2.toNatClampNeg ∧ m = mem) := by
  refine tw_met (by decide) (Nat.le_of_ble_eq_true rfl) (fun κ hl hC hT => ?_)
  subst hl
  unfold G_X2_costOf at hG
  show WT κ 0 [some (.inr 1), some (.inl p1), some (.inl p2)] [] mem
  refine tr_aload_n hC dX2_costOf_0 rfl rfl ?_
  refine tr_getr hC dX2_costOf_1 gf_X2_17 sh_1 rfl ?_
  refine tr_iload_n hC dX2_costOf_4 rfl rfl ?_
  obtain ⟨g1, hG⟩ := hG
  refine tr_aald hC dX2_costOf_5 sh_3 g1 ?_
  refine tr_iload_n hC dX2_costOf_6 rfl rfl ?_
  have g2 := hG
  refine tr_al (v := mem (4 + p1.toNatClampNeg) p2.toNatClampNeg) hC dX2_costOf_7 (shr_3 _ (vp_lt g1)) g2 rfl ?_
  exact tr_iret hC hT dX2_costOf_8 ⟨_, rfl, rfl, rfl⟩
def G_X2_setCost (p1 : Int32) (p2 : Int32) (p3 : Int32) : Prop := vp_in p1 6 ∧ vp_in p2 8
set_option maxRecDepth 100000 in
theorem C_X2_setCost (l : Launch) (mem : TMem) (p1 : Int32) (p2 : Int32) (p3 : Int32) (hG : G_X2_setCost p1 p2 p3) : TMv l i_X2_setCost 0 0 [.inr 1, .inl p1, .inl p2, .inl p3] mem (fun m => m = (mset mem (4 + p1.toNatClampNeg) p2.toNatClampNeg p3)) := by
  refine tw_met (by decide) (Nat.le_of_ble_eq_true rfl) (fun κ hl hC hT => ?_)
  subst hl
  unfold G_X2_setCost at hG
  show WT κ 0 [some (.inr 1), some (.inl p1), some (.inl p2), some (.inl p3)] [] mem
  refine tr_aload_n hC dX2_setCost_0 rfl rfl ?_
  refine tr_getr hC dX2_setCost_1 gf_X2_17 sh_1 rfl ?_
  refine tr_iload_n hC dX2_setCost_4 rfl rfl ?_
  obtain ⟨g1, hG⟩ := hG
  refine tr_aald hC dX2_setCost_5 sh_3 g1 ?_
  refine tr_iload_n hC dX2_setCost_6 rfl rfl ?_
  refine tr_iload_n hC dX2_setCost_7 rfl rfl ?_
  have g2 := hG
  refine tr_iast hC dX2_setCost_8 (shr_3 _ (vp_lt g1)) g2 ?_
  exact tr_vret hC hT dX2_setCost_9 ⟨rfl, rfl⟩
def G_X10_cost (p1 : Int32) (p2 : Int32) (p3 : Int32) : Prop := (¬ ((F_X10_within p1 0 5) = 0) → ((¬ ((F_X10_within p2 0 7) = 0) → ((¬ ((F_X10_within p3 0 50) = 0) → (G_X2_costOf p1 p2 ∧ G_X2_setCost p1 p2 p3))))))
def F_X10_cost (mem : TMem) (p1 : Int32) (p2 : Int32) (p3 : Int32) : Int32 := if (F_X10_within p1 0 5) = 0 then (-2) else if (F_X10_within p2 0 7) = 0 then (-2) else if (F_X10_within p3 0 50) = 0 then (-2) else mem (4 + p1.toNatClampNeg) p2.toNatClampNeg
def M_X10_cost (mem : TMem) (p1 : Int32) (p2 : Int32) (p3 : Int32) : TMem := if (F_X10_within p1 0 5) = 0 then mem else if (F_X10_within p2 0 7) = 0 then mem else if (F_X10_within p3 0 50) = 0 then mem else (mset (mset (mset mem 40 6 0) 108 5 0) (4 + p1.toNatClampNeg) p2.toNatClampNeg p3)
set_option maxRecDepth 100000 in
theorem C_X10_cost (l : Launch) (mem : TMem) (p1 : Int32) (p2 : Int32) (p3 : Int32) (hG : G_X10_cost p1 p2 p3) : TMi l i_X10_cost 2 42 [.inr 0, .inl p1, .inl p2, .inl p3] mem (fun x m => x = F_X10_cost mem p1 p2 p3 ∧ m = M_X10_cost mem p1 p2 p3) := by
  refine tw_met (by decide) (Nat.le_of_ble_eq_true rfl) (fun κ hl hC hT => ?_)
  subst hl
  unfold G_X10_cost at hG
  show WT κ 0 [some (.inr 0), some (.inl p1), some (.inl p2), some (.inl p3), none] [] mem
  refine tr_iload_n hC dX10_cost_0 rfl rfl ?_
  refine tr_xSi (As := [.inl p1]) (fr2 := 1) (lo2 := 22) hC dX10_cost_1 mc_X10_91 mst_X10_isSound ⟨Nat.le_of_ble_eq_true rfl, Nat.le_of_ble_eq_true rfl, Nat.le_of_ble_eq_true rfl⟩ rfl (C_X10_isSound _ mem p1) ?_
  refine tr_if_eq hC dX10_cost_4 (tgt := 24) rfl (fun c4 => ?_) (fun c4 => ?_)
  · refine tr_bipush (v := (-2)) hC dX10_cost_24 (by decide) ?_
    exact tr_iret hC hT dX10_cost_26 ⟨_, rfl, (by rw [F_X10_cost, if_pos c4]), (by rw [M_X10_cost, if_pos c4])⟩
  · have hG := hG c4
    refine tr_iload_n hC dX10_cost_7 rfl rfl ?_
    refine tr_xSi (As := [.inl p2]) (fr2 := 1) (lo2 := 22) hC dX10_cost_8 mc_X10_74 mst_X10_isMark ⟨Nat.le_of_ble_eq_true rfl, Nat.le_of_ble_eq_true rfl, Nat.le_of_ble_eq_true rfl⟩ rfl (C_X10_isMark _ mem p2) ?_
    refine tr_if_eq hC dX10_cost_11 (tgt := 24) rfl (fun c11 => ?_) (fun c11 => ?_)
    · refine tr_bipush (v := (-2)) hC dX10_cost_24 (by decide) ?_
      exact tr_iret hC hT dX10_cost_26 ⟨_, rfl, (by rw [F_X10_cost, if_neg c4, if_pos c11]), (by rw [M_X10_cost, if_neg c4, if_pos c11])⟩
    · have hG := hG c11
      refine tr_iload_n hC dX10_cost_14 rfl rfl ?_
      refine tr_iconst (v := 0) hC dX10_cost_15 (by decide) ?_
      refine tr_bipush (v := 50) hC dX10_cost_16 (by decide) ?_
      refine tr_xSi (As := [.inl p3, .inl 0, .inl 50]) (fr2 := 0) (lo2 := 0) hC dX10_cost_18 mc_X10_94 mst_X10_within ⟨Nat.le_of_ble_eq_true rfl, Nat.le_of_ble_eq_true rfl, Nat.le_of_ble_eq_true rfl⟩ rfl (C_X10_within _ mem p3 0 50) ?_
      refine tr_if_ne hC dX10_cost_21 (tgt := 27) rfl (fun c21 => ?_) (fun c21 => ?_)
      · have hG := hG c21
        refine tr_aload_n hC dX10_cost_27 rfl rfl ?_
        refine tr_getr hC dX10_cost_28 gf_X10_10 sh_0 rfl ?_
        refine tr_iload_n hC dX10_cost_31 rfl rfl ?_
        refine tr_iload_n hC dX10_cost_32 rfl rfl ?_
        obtain ⟨g1, hG⟩ := hG
        refine tr_xVi (As := [.inl p1, .inl p2]) (fr2 := 0) (lo2 := 0) hC dX10_cost_33 mc_X10_98 mv_X2_costOf sh_1 rfl ⟨Nat.le_of_ble_eq_true rfl, Nat.le_of_ble_eq_true rfl, Nat.le_of_ble_eq_true rfl⟩ rfl (C_X2_costOf _ mem p1 p2 g1) ?_
        refine tr_istore (loc2 := [some (.inr 0), some (.inl p1), some (.inl p2), some (.inl p3), some (.inl (mem (4 + p1.toNatClampNeg) p2.toNatClampNeg))]) hC dX10_cost_36 (by decide) rfl ?_
        refine tr_aload_n hC dX10_cost_38 rfl rfl ?_
        refine tr_xVv (As := []) (fr2 := 1) (lo2 := 20) hC dX10_cost_39 mc_X10_82 mv_X10_endWhatLeansOnThis sh_0 rfl ⟨Nat.le_of_ble_eq_true rfl, Nat.le_of_ble_eq_true rfl, Nat.le_of_ble_eq_true rfl⟩ rfl (C_X10_endWhatLeansOnThis _ mem ) ?_
        refine tr_aload_n hC dX10_cost_42 rfl rfl ?_
        refine tr_getr hC dX10_cost_43 gf_X10_10 sh_0 rfl ?_
        refine tr_iload_n hC dX10_cost_46 rfl rfl ?_
        refine tr_iload_n hC dX10_cost_47 rfl rfl ?_
        refine tr_iload_n hC dX10_cost_48 rfl rfl ?_
        have g2 := hG
        refine tr_xVv (As := [.inl p1, .inl p2, .inl p3]) (fr2 := 0) (lo2 := 0) hC dX10_cost_49 mc_X10_102 mv_X2_setCost sh_1 rfl ⟨Nat.le_of_ble_eq_true rfl, Nat.le_of_ble_eq_true rfl, Nat.le_of_ble_eq_true rfl⟩ rfl (C_X2_setCost _ (mset (mset mem 40 6 0) 108 5 0) p1 p2 p3 g2) ?_
        refine tr_iload hC dX10_cost_52 rfl ?_
        exact tr_iret hC hT dX10_cost_54 ⟨_, rfl, (by rw [F_X10_cost, if_neg c4, if_neg c11, if_neg c21]), (by rw [M_X10_cost, if_neg c4, if_neg c11, if_neg c21])⟩
      · refine tr_bipush (v := (-2)) hC dX10_cost_24 (by decide) ?_
        exact tr_iret hC hT dX10_cost_26 ⟨_, rfl, (by rw [F_X10_cost, if_neg c4, if_neg c11, if_pos c21]), (by rw [M_X10_cost, if_neg c4, if_neg c11, if_pos c21])⟩
def G_X11_cost (p1 : Int32) (p2 : Int32) (p3 : Int32) : Prop := (¬ ((F_X11_in p1 0 5) = 0) → ((¬ ((F_X11_in p2 0 7) = 0) → ((¬ ((F_X11_in p3 0 50) = 0) → (vp_in ((8 * p1) + p2) 48))))))
def F_X11_cost (mem : TMem) (p1 : Int32) (p2 : Int32) (p3 : Int32) : Int32 := if (F_X11_in p1 0 5) = 0 then (-2) else if (F_X11_in p2 0 7) = 0 then (-2) else if (F_X11_in p3 0 50) = 0 then (-2) else mem 189 (Int32.toNatClampNeg ((8 * p1) + p2))
def M_X11_cost (mem : TMem) (p1 : Int32) (p2 : Int32) (p3 : Int32) : TMem := if (F_X11_in p1 0 5) = 0 then mem else if (F_X11_in p2 0 7) = 0 then mem else if (F_X11_in p3 0 50) = 0 then mem else (mset (mset mem 189 (Int32.toNatClampNeg ((8 * p1) + p2)) p3) 187 11 0)
set_option maxRecDepth 100000 in
theorem C_X11_cost (l : Launch) (mem : TMem) (p1 : Int32) (p2 : Int32) (p3 : Int32) (hG : G_X11_cost p1 p2 p3) : TMi l i_X11_cost 1 22 [.inr 187, .inl p1, .inl p2, .inl p3] mem (fun x m => x = F_X11_cost mem p1 p2 p3 ∧ m = M_X11_cost mem p1 p2 p3) := by
  refine tw_met (by decide) (Nat.le_of_ble_eq_true rfl) (fun κ hl hC hT => ?_)
  subst hl
  unfold G_X11_cost at hG
  show WT κ 0 [some (.inr 187), some (.inl p1), some (.inl p2), some (.inl p3), none] [] mem
  refine tr_iload_n hC dX11_cost_0 rfl rfl ?_
  refine tr_iconst (v := 0) hC dX11_cost_1 (by decide) ?_
  refine tr_iconst (v := 5) hC dX11_cost_2 (by decide) ?_
  refine tr_xSi (As := [.inl p1, .inl 0, .inl 5]) (fr2 := 0) (lo2 := 0) hC dX11_cost_3 mc_X11_89 mst_X11_in ⟨Nat.le_of_ble_eq_true rfl, Nat.le_of_ble_eq_true rfl, Nat.le_of_ble_eq_true rfl⟩ rfl (C_X11_in _ mem p1 0 5) ?_
  refine tr_if_eq hC dX11_cost_6 (tgt := 29) rfl (fun c6 => ?_) (fun c6 => ?_)
  · refine tr_bipush (v := (-2)) hC dX11_cost_29 (by decide) ?_
    exact tr_iret hC hT dX11_cost_31 ⟨_, rfl, (by rw [F_X11_cost, if_pos c6]), (by rw [M_X11_cost, if_pos c6])⟩
  · have hG := hG c6
    refine tr_iload_n hC dX11_cost_9 rfl rfl ?_
    refine tr_iconst (v := 0) hC dX11_cost_10 (by decide) ?_
    refine tr_bipush (v := 7) hC dX11_cost_11 (by decide) ?_
    refine tr_xSi (As := [.inl p2, .inl 0, .inl 7]) (fr2 := 0) (lo2 := 0) hC dX11_cost_13 mc_X11_89 mst_X11_in ⟨Nat.le_of_ble_eq_true rfl, Nat.le_of_ble_eq_true rfl, Nat.le_of_ble_eq_true rfl⟩ rfl (C_X11_in _ mem p2 0 7) ?_
    refine tr_if_eq hC dX11_cost_16 (tgt := 29) rfl (fun c16 => ?_) (fun c16 => ?_)
    · refine tr_bipush (v := (-2)) hC dX11_cost_29 (by decide) ?_
      exact tr_iret hC hT dX11_cost_31 ⟨_, rfl, (by rw [F_X11_cost, if_neg c6, if_pos c16]), (by rw [M_X11_cost, if_neg c6, if_pos c16])⟩
    · have hG := hG c16
      refine tr_iload_n hC dX11_cost_19 rfl rfl ?_
      refine tr_iconst (v := 0) hC dX11_cost_20 (by decide) ?_
      refine tr_bipush (v := 50) hC dX11_cost_21 (by decide) ?_
      refine tr_xSi (As := [.inl p3, .inl 0, .inl 50]) (fr2 := 0) (lo2 := 0) hC dX11_cost_23 mc_X11_89 mst_X11_in ⟨Nat.le_of_ble_eq_true rfl, Nat.le_of_ble_eq_true rfl, Nat.le_of_ble_eq_true rfl⟩ rfl (C_X11_in _ mem p3 0 50) ?_
      refine tr_if_ne hC dX11_cost_26 (tgt := 32) rfl (fun c26 => ?_) (fun c26 => ?_)
      · have hG := hG c26
        refine tr_aload_n hC dX11_cost_32 rfl rfl ?_
        refine tr_getr hC dX11_cost_33 gf_X11_13 sh_187 rfl ?_
        refine tr_bipush (v := 8) hC dX11_cost_36 (by decide) ?_
        refine tr_iload_n hC dX11_cost_38 rfl rfl ?_
        refine tr_imul hC dX11_cost_39 ?_
        refine tr_iload_n hC dX11_cost_40 rfl rfl ?_
        refine tr_iadd hC dX11_cost_41 ?_
        have g1 := hG
        refine tr_al (v := mem 189 (Int32.toNatClampNeg ((8 * p1) + p2))) hC dX11_cost_42 sh_189 g1 rfl ?_
        refine tr_istore (loc2 := [some (.inr 187), some (.inl p1), some (.inl p2), some (.inl p3), some (.inl (mem 189 (Int32.toNatClampNeg ((8 * p1) + p2))))]) hC dX11_cost_43 (by decide) rfl ?_
        refine tr_aload_n hC dX11_cost_45 rfl rfl ?_
        refine tr_getr hC dX11_cost_46 gf_X11_13 sh_187 rfl ?_
        refine tr_bipush (v := 8) hC dX11_cost_49 (by decide) ?_
        refine tr_iload_n hC dX11_cost_51 rfl rfl ?_
        refine tr_imul hC dX11_cost_52 ?_
        refine tr_iload_n hC dX11_cost_53 rfl rfl ?_
        refine tr_iadd hC dX11_cost_54 ?_
        refine tr_iload_n hC dX11_cost_55 rfl rfl ?_
        refine tr_iast hC dX11_cost_56 sh_189 g1 ?_
        refine tr_aload_n hC dX11_cost_57 rfl rfl ?_
        refine tr_iconst (v := 0) hC dX11_cost_58 (by decide) ?_
        refine tr_puti hC dX11_cost_59 gp_X11_96 sh_187 rfl (by decide) (by decide) ?_
        refine tr_iload hC dX11_cost_62 rfl ?_
        exact tr_iret hC hT dX11_cost_64 ⟨_, rfl, (by rw [F_X11_cost, if_neg c6, if_neg c16, if_neg c26]), (by rw [M_X11_cost, if_neg c6, if_neg c16, if_neg c26])⟩
      · refine tr_bipush (v := (-2)) hC dX11_cost_29 (by decide) ?_
        exact tr_iret hC hT dX11_cost_31 ⟨_, rfl, (by rw [F_X11_cost, if_neg c6, if_neg c16, if_pos c26]), (by rw [M_X11_cost, if_neg c6, if_neg c16, if_pos c26])⟩
set_option maxRecDepth 100000 in
theorem C_X2_stayCost (l : Launch) (mem : TMem)  : TMi l i_X2_stayCost 0 0 [.inr 1] mem (fun x m => x = mem 1 3 ∧ m = mem) := by
  refine tw_met (by decide) (Nat.le_of_ble_eq_true rfl) (fun κ hl hC hT => ?_)
  subst hl
  show WT κ 0 [some (.inr 1)] [] mem
  refine tr_aload_n hC dX2_stayCost_0 rfl rfl ?_
  refine tr_gi (v := mem 1 3) hC dX2_stayCost_1 gf_X2_24 sh_1 rfl rfl ?_
  exact tr_iret hC hT dX2_stayCost_4 ⟨_, rfl, rfl, rfl⟩
set_option maxRecDepth 100000 in
theorem C_X2_setStayCost (l : Launch) (mem : TMem) (p1 : Int32) : TMv l i_X2_setStayCost 0 0 [.inr 1, .inl p1] mem (fun m => m = (mset mem 1 3 p1)) := by
  refine tw_met (by decide) (Nat.le_of_ble_eq_true rfl) (fun κ hl hC hT => ?_)
  subst hl
  show WT κ 0 [some (.inr 1), some (.inl p1)] [] mem
  refine tr_aload_n hC dX2_setStayCost_0 rfl rfl ?_
  refine tr_iload_n hC dX2_setStayCost_1 rfl rfl ?_
  refine tr_puti hC dX2_setStayCost_2 gp_X2_24 sh_1 rfl rfl rfl ?_
  exact tr_vret hC hT dX2_setStayCost_5 ⟨rfl, rfl⟩
def F_X10_stay (mem : TMem) (p1 : Int32) : Int32 := if (F_X10_within p1 0 20) = 0 then (-2) else mem 1 3
def M_X10_stay (mem : TMem) (p1 : Int32) : TMem := if (F_X10_within p1 0 20) = 0 then mem else (mset (mset (mset mem 40 6 0) 108 5 0) 1 3 p1)
set_option maxRecDepth 100000 in
theorem C_X10_stay (l : Launch) (mem : TMem) (p1 : Int32) : TMi l i_X10_stay 2 40 [.inr 0, .inl p1] mem (fun x m => x = F_X10_stay mem p1 ∧ m = M_X10_stay mem p1) := by
  refine tw_met (by decide) (Nat.le_of_ble_eq_true rfl) (fun κ hl hC hT => ?_)
  subst hl
  show WT κ 0 [some (.inr 0), some (.inl p1), none] [] mem
  refine tr_iload_n hC dX10_stay_0 rfl rfl ?_
  refine tr_iconst (v := 0) hC dX10_stay_1 (by decide) ?_
  refine tr_bipush (v := 20) hC dX10_stay_2 (by decide) ?_
  refine tr_xSi (As := [.inl p1, .inl 0, .inl 20]) (fr2 := 0) (lo2 := 0) hC dX10_stay_4 mc_X10_94 mst_X10_within ⟨Nat.le_of_ble_eq_true rfl, Nat.le_of_ble_eq_true rfl, Nat.le_of_ble_eq_true rfl⟩ rfl (C_X10_within _ mem p1 0 20) ?_
  refine tr_if_ne hC dX10_stay_7 (tgt := 13) rfl (fun c7 => ?_) (fun c7 => ?_)
  · refine tr_aload_n hC dX10_stay_13 rfl rfl ?_
    refine tr_getr hC dX10_stay_14 gf_X10_10 sh_0 rfl ?_
    refine tr_xVi (As := []) (fr2 := 0) (lo2 := 0) hC dX10_stay_17 mc_X10_106 mv_X2_stayCost sh_1 rfl ⟨Nat.le_of_ble_eq_true rfl, Nat.le_of_ble_eq_true rfl, Nat.le_of_ble_eq_true rfl⟩ rfl (C_X2_stayCost _ mem ) ?_
    refine tr_istore_n (loc2 := [some (.inr 0), some (.inl p1), some (.inl (mem 1 3))]) hC dX10_stay_20 rfl (by decide) rfl ?_
    refine tr_aload_n hC dX10_stay_21 rfl rfl ?_
    refine tr_xVv (As := []) (fr2 := 1) (lo2 := 20) hC dX10_stay_22 mc_X10_82 mv_X10_endWhatLeansOnThis sh_0 rfl ⟨Nat.le_of_ble_eq_true rfl, Nat.le_of_ble_eq_true rfl, Nat.le_of_ble_eq_true rfl⟩ rfl (C_X10_endWhatLeansOnThis _ mem ) ?_
    refine tr_aload_n hC dX10_stay_25 rfl rfl ?_
    refine tr_getr hC dX10_stay_26 gf_X10_10 sh_0 rfl ?_
    refine tr_iload_n hC dX10_stay_29 rfl rfl ?_
    refine tr_xVv (As := [.inl p1]) (fr2 := 0) (lo2 := 0) hC dX10_stay_30 mc_X10_109 mv_X2_setStayCost sh_1 rfl ⟨Nat.le_of_ble_eq_true rfl, Nat.le_of_ble_eq_true rfl, Nat.le_of_ble_eq_true rfl⟩ rfl (C_X2_setStayCost _ (mset (mset mem 40 6 0) 108 5 0) p1) ?_
    refine tr_iload_n hC dX10_stay_33 rfl rfl ?_
    exact tr_iret hC hT dX10_stay_34 ⟨_, rfl, (by rw [F_X10_stay, if_neg c7]), (by rw [M_X10_stay, if_neg c7])⟩
  · refine tr_bipush (v := (-2)) hC dX10_stay_10 (by decide) ?_
    exact tr_iret hC hT dX10_stay_12 ⟨_, rfl, (by rw [F_X10_stay, if_pos c7]), (by rw [M_X10_stay, if_pos c7])⟩
def F_X11_stay (mem : TMem) (p1 : Int32) : Int32 := if (F_X11_in p1 0 20) = 0 then (-2) else mem 187 3
def M_X11_stay (mem : TMem) (p1 : Int32) : TMem := if (F_X11_in p1 0 20) = 0 then mem else (mset (mset mem 187 3 p1) 187 11 0)
set_option maxRecDepth 100000 in
theorem C_X11_stay (l : Launch) (mem : TMem) (p1 : Int32) : TMi l i_X11_stay 1 22 [.inr 187, .inl p1] mem (fun x m => x = F_X11_stay mem p1 ∧ m = M_X11_stay mem p1) := by
  refine tw_met (by decide) (Nat.le_of_ble_eq_true rfl) (fun κ hl hC hT => ?_)
  subst hl
  show WT κ 0 [some (.inr 187), some (.inl p1), none] [] mem
  refine tr_iload_n hC dX11_stay_0 rfl rfl ?_
  refine tr_iconst (v := 0) hC dX11_stay_1 (by decide) ?_
  refine tr_bipush (v := 20) hC dX11_stay_2 (by decide) ?_
  refine tr_xSi (As := [.inl p1, .inl 0, .inl 20]) (fr2 := 0) (lo2 := 0) hC dX11_stay_4 mc_X11_89 mst_X11_in ⟨Nat.le_of_ble_eq_true rfl, Nat.le_of_ble_eq_true rfl, Nat.le_of_ble_eq_true rfl⟩ rfl (C_X11_in _ mem p1 0 20) ?_
  refine tr_if_ne hC dX11_stay_7 (tgt := 13) rfl (fun c7 => ?_) (fun c7 => ?_)
  · refine tr_aload_n hC dX11_stay_13 rfl rfl ?_
    refine tr_gi (v := mem 187 3) hC dX11_stay_14 gf_X11_16 sh_187 rfl rfl ?_
    refine tr_istore_n (loc2 := [some (.inr 187), some (.inl p1), some (.inl (mem 187 3))]) hC dX11_stay_17 rfl (by decide) rfl ?_
    refine tr_aload_n hC dX11_stay_18 rfl rfl ?_
    refine tr_iload_n hC dX11_stay_19 rfl rfl ?_
    refine tr_puti hC dX11_stay_20 gp_X11_16 sh_187 rfl rfl rfl ?_
    refine tr_aload_n hC dX11_stay_23 rfl rfl ?_
    refine tr_iconst (v := 0) hC dX11_stay_24 (by decide) ?_
    refine tr_puti hC dX11_stay_25 gp_X11_96 sh_187 rfl (by decide) (by decide) ?_
    refine tr_iload_n hC dX11_stay_28 rfl rfl ?_
    exact tr_iret hC hT dX11_stay_29 ⟨_, rfl, (by rw [F_X11_stay, if_neg c7]), (by rw [M_X11_stay, if_neg c7])⟩
  · refine tr_bipush (v := (-2)) hC dX11_stay_10 (by decide) ?_
    exact tr_iret hC hT dX11_stay_12 ⟨_, rfl, (by rw [F_X11_stay, if_pos c7]), (by rw [M_X11_stay, if_pos c7])⟩
def F_X10_mayFollow (p1 : Int32) (p2 : Int32) : Int32 := if p2 = (-1) then 1 else if (F_X10_within p2 0 5) = 0 then 0 else if p1 = (-1) then 0 else 1
theorem B_X10_mayFollow (p1 : Int32) (p2 : Int32) : F_X10_mayFollow p1 p2 = 0 ∨ F_X10_mayFollow p1 p2 = 1 := by
  unfold F_X10_mayFollow
  repeat (first | (split) | (exact Or.inl rfl) | (exact Or.inr rfl))
set_option maxRecDepth 100000 in
theorem C_X10_mayFollow (l : Launch) (mem : TMem) (p1 : Int32) (p2 : Int32) : TMi l i_X10_mayFollow 2 42 [.inl p1, .inl p2] mem (fun x m => x = F_X10_mayFollow p1 p2 ∧ m = mem) := by
  refine tw_met (by decide) (Nat.le_of_ble_eq_true rfl) (fun κ hl hC hT => ?_)
  subst hl
  show WT κ 0 [some (.inl p1), some (.inl p2)] [] mem
  refine tr_iload_n hC dX10_mayFollow_0 rfl rfl ?_
  refine tr_iconst (v := (-1)) hC dX10_mayFollow_1 (by decide) ?_
  refine tr_icmp_eq hC dX10_mayFollow_2 (tgt := 17) rfl (fun c2 => ?_) (fun c2 => ?_)
  · refine tr_iconst (v := 1) hC dX10_mayFollow_17 (by decide) ?_
    refine tr_goto hC dX10_mayFollow_18 (tgt := 22) rfl ?_
    exact tr_zret hC hT dX10_mayFollow_22 (nar_b (by decide)) ⟨_, rfl, (by rw [F_X10_mayFollow, if_pos c2]), rfl⟩
  · refine tr_iload_n hC dX10_mayFollow_5 rfl rfl ?_
    refine tr_xSi (As := [.inl p2]) (fr2 := 1) (lo2 := 22) hC dX10_mayFollow_6 mc_X10_91 mst_X10_isSound ⟨Nat.le_of_ble_eq_true rfl, Nat.le_of_ble_eq_true rfl, Nat.le_of_ble_eq_true rfl⟩ rfl (C_X10_isSound _ mem p2) ?_
    refine tr_if_eq hC dX10_mayFollow_9 (tgt := 21) rfl (fun c9 => ?_) (fun c9 => ?_)
    · refine tr_iconst (v := 0) hC dX10_mayFollow_21 (by decide) ?_
      exact tr_zret hC hT dX10_mayFollow_22 (nar_b (by decide)) ⟨_, rfl, (by rw [F_X10_mayFollow, if_neg c2, if_pos c9]), rfl⟩
    · refine tr_iload_n hC dX10_mayFollow_12 rfl rfl ?_
      refine tr_iconst (v := (-1)) hC dX10_mayFollow_13 (by decide) ?_
      refine tr_icmp_eq hC dX10_mayFollow_14 (tgt := 21) rfl (fun c14 => ?_) (fun c14 => ?_)
      · refine tr_iconst (v := 0) hC dX10_mayFollow_21 (by decide) ?_
        exact tr_zret hC hT dX10_mayFollow_22 (nar_b (by decide)) ⟨_, rfl, (by rw [F_X10_mayFollow, if_neg c2, if_neg c9, if_pos c14]), rfl⟩
      · refine tr_iconst (v := 1) hC dX10_mayFollow_17 (by decide) ?_
        refine tr_goto hC dX10_mayFollow_18 (tgt := 22) rfl ?_
        exact tr_zret hC hT dX10_mayFollow_22 (nar_b (by decide)) ⟨_, rfl, (by rw [F_X10_mayFollow, if_neg c2, if_neg c9, if_neg c14]), rfl⟩
def F_X10_areSounds (p1 : Int32) (p2 : Int32) (p3 : Int32) (p4 : Int32) : Int32 := if (F_X10_within p1 0 5) = 0 then 0 else if (F_X10_mayFollow p1 p2) = 0 then 0 else if (F_X10_mayFollow p2 p3) = 0 then 0 else if (F_X10_mayFollow p3 p4) = 0 then 0 else 1
theorem B_X10_areSounds (p1 : Int32) (p2 : Int32) (p3 : Int32) (p4 : Int32) : F_X10_areSounds p1 p2 p3 p4 = 0 ∨ F_X10_areSounds p1 p2 p3 p4 = 1 := by
  unfold F_X10_areSounds
  repeat (first | (split) | (exact Or.inl rfl) | (exact Or.inr rfl))
set_option maxRecDepth 100000 in
theorem C_X10_areSounds (l : Launch) (mem : TMem) (p1 : Int32) (p2 : Int32) (p3 : Int32) (p4 : Int32) : TMi l i_X10_areSounds 3 63 [.inl p1, .inl p2, .inl p3, .inl p4] mem (fun x m => x = F_X10_areSounds p1 p2 p3 p4 ∧ m = mem) := by
  refine tw_met (by decide) (Nat.le_of_ble_eq_true rfl) (fun κ hl hC hT => ?_)
  subst hl
  show WT κ 0 [some (.inl p1), some (.inl p2), some (.inl p3), some (.inl p4)] [] mem
  refine tr_iload_n hC dX10_areSounds_0 rfl rfl ?_
  refine tr_xSi (As := [.inl p1]) (fr2 := 1) (lo2 := 22) hC dX10_areSounds_1 mc_X10_91 mst_X10_isSound ⟨Nat.le_of_ble_eq_true rfl, Nat.le_of_ble_eq_true rfl, Nat.le_of_ble_eq_true rfl⟩ rfl (C_X10_isSound _ mem p1) ?_
  refine tr_if_eq hC dX10_areSounds_4 (tgt := 35) rfl (fun c4 => ?_) (fun c4 => ?_)
  · refine tr_iconst (v := 0) hC dX10_areSounds_35 (by decide) ?_
    exact tr_zret hC hT dX10_areSounds_36 (nar_b (by decide)) ⟨_, rfl, (by rw [F_X10_areSounds, if_pos c4]), rfl⟩
  · refine tr_iload_n hC dX10_areSounds_7 rfl rfl ?_
    refine tr_iload_n hC dX10_areSounds_8 rfl rfl ?_
    refine tr_xSi (As := [.inl p1, .inl p2]) (fr2 := 2) (lo2 := 42) hC dX10_areSounds_9 mc_X10_227 mst_X10_mayFollow ⟨Nat.le_of_ble_eq_true rfl, Nat.le_of_ble_eq_true rfl, Nat.le_of_ble_eq_true rfl⟩ rfl (C_X10_mayFollow _ mem p1 p2) ?_
    refine tr_if_eq hC dX10_areSounds_12 (tgt := 35) rfl (fun c12 => ?_) (fun c12 => ?_)
    · refine tr_iconst (v := 0) hC dX10_areSounds_35 (by decide) ?_
      exact tr_zret hC hT dX10_areSounds_36 (nar_b (by decide)) ⟨_, rfl, (by rw [F_X10_areSounds, if_neg c4, if_pos c12]), rfl⟩
    · refine tr_iload_n hC dX10_areSounds_15 rfl rfl ?_
      refine tr_iload_n hC dX10_areSounds_16 rfl rfl ?_
      refine tr_xSi (As := [.inl p2, .inl p3]) (fr2 := 2) (lo2 := 42) hC dX10_areSounds_17 mc_X10_227 mst_X10_mayFollow ⟨Nat.le_of_ble_eq_true rfl, Nat.le_of_ble_eq_true rfl, Nat.le_of_ble_eq_true rfl⟩ rfl (C_X10_mayFollow _ mem p2 p3) ?_
      refine tr_if_eq hC dX10_areSounds_20 (tgt := 35) rfl (fun c20 => ?_) (fun c20 => ?_)
      · refine tr_iconst (v := 0) hC dX10_areSounds_35 (by decide) ?_
        exact tr_zret hC hT dX10_areSounds_36 (nar_b (by decide)) ⟨_, rfl, (by rw [F_X10_areSounds, if_neg c4, if_neg c12, if_pos c20]), rfl⟩
      · refine tr_iload_n hC dX10_areSounds_23 rfl rfl ?_
        refine tr_iload_n hC dX10_areSounds_24 rfl rfl ?_
        refine tr_xSi (As := [.inl p3, .inl p4]) (fr2 := 2) (lo2 := 42) hC dX10_areSounds_25 mc_X10_227 mst_X10_mayFollow ⟨Nat.le_of_ble_eq_true rfl, Nat.le_of_ble_eq_true rfl, Nat.le_of_ble_eq_true rfl⟩ rfl (C_X10_mayFollow _ mem p3 p4) ?_
        refine tr_if_eq hC dX10_areSounds_28 (tgt := 35) rfl (fun c28 => ?_) (fun c28 => ?_)
        · refine tr_iconst (v := 0) hC dX10_areSounds_35 (by decide) ?_
          exact tr_zret hC hT dX10_areSounds_36 (nar_b (by decide)) ⟨_, rfl, (by rw [F_X10_areSounds, if_neg c4, if_neg c12, if_neg c20, if_pos c28]), rfl⟩
        · refine tr_iconst (v := 1) hC dX10_areSounds_31 (by decide) ?_
          refine tr_goto hC dX10_areSounds_32 (tgt := 36) rfl ?_
          exact tr_zret hC hT dX10_areSounds_36 (nar_b (by decide)) ⟨_, rfl, (by rw [F_X10_areSounds, if_neg c4, if_neg c12, if_neg c20, if_neg c28]), rfl⟩
set_option maxRecDepth 100000 in
theorem C_X5_words (l : Launch) (mem : TMem)  : TMi l i_X5_words 0 0 [.inr 10] mem (fun x m => x = mem 10 4 ∧ m = mem) := by
  refine tw_met (by decide) (Nat.le_of_ble_eq_true rfl) (fun κ hl hC hT => ?_)
  subst hl
  show WT κ 0 [some (.inr 10)] [] mem
  refine tr_aload_n hC dX5_words_0 rfl rfl ?_
  refine tr_gi (v := mem 10 4) hC dX5_words_1 gf_X5_26 sh_10 rfl rfl ?_
  exact tr_iret hC hT dX5_words_4 ⟨_, rfl, rfl, rfl⟩
def M_X5_addWord (mem : TMem)  : TMem := if 8 ≤ (mem 10 4) then mem else (mset mem 10 4 ((mem 10 4) + 1))
set_option maxRecDepth 100000 in
theorem C_X5_addWord (l : Launch) (mem : TMem)  : TMv l i_X5_addWord 0 0 [.inr 10] mem (fun m => m = M_X5_addWord mem) := by
  refine tw_met (by decide) (Nat.le_of_ble_eq_true rfl) (fun κ hl hC hT => ?_)
  subst hl
  show WT κ 0 [some (.inr 10)] [] mem
  refine tr_aload_n hC dX5_addWord_0 rfl rfl ?_
  refine tr_gi (v := mem 10 4) hC dX5_addWord_1 gf_X5_26 sh_10 rfl rfl ?_
  refine tr_bipush (v := 8) hC dX5_addWord_4 (by decide) ?_
  refine tr_icmp_ge hC dX5_addWord_6 (tgt := 19) rfl (fun c6 => ?_) (fun c6 => ?_)
  · exact tr_vret hC hT dX5_addWord_19 ⟨rfl, (by rw [M_X5_addWord, if_pos c6])⟩
  · refine tr_aload_n hC dX5_addWord_9 rfl rfl ?_
    refine tr_dup hC dX5_addWord_10 ?_
    refine tr_gi (v := mem 10 4) hC dX5_addWord_11 gf_X5_26 sh_10 rfl rfl ?_
    refine tr_iconst (v := 1) hC dX5_addWord_14 (by decide) ?_
    refine tr_iadd hC dX5_addWord_15 ?_
    refine tr_puti hC dX5_addWord_16 gp_X5_26 sh_10 rfl rfl rfl ?_
    exact tr_vret hC hT dX5_addWord_19 ⟨rfl, (by rw [M_X5_addWord, if_neg c6])⟩
def G_X5_append (mem : TMem) (p1 : Int32) (p2 : Int32) : Prop := (¬ (p2 = (-1)) → (vp_in p1 16 ∧ ((¬ (4 ≤ (mem 28 p1.toNatClampNeg)) → vp_in (mem 28 p1.toNatClampNeg) 4))))
def M_X5_append (mem : TMem) (p1 : Int32) (p2 : Int32) : TMem := if p2 = (-1) then mem else if 4 ≤ (mem 28 p1.toNatClampNeg) then mem else (mset (mset mem (12 + p1.toNatClampNeg) (Int32.toNatClampNeg (mem 28 p1.toNatClampNeg)) p2) 28 p1.toNatClampNeg ((mem 28 p1.toNatClampNeg) + 1))
set_option maxRecDepth 100000 in
theorem C_X5_append (l : Launch) (mem : TMem) (p1 : Int32) (p2 : Int32) (hG : G_X5_append mem p1 p2) : TMv l i_X5_append 0 0 [.inr 10, .inl p1, .inl p2] mem (fun m => m = M_X5_append mem p1 p2) := by
  refine tw_met (by decide) (Nat.le_of_ble_eq_true rfl) (fun κ hl hC hT => ?_)
  subst hl
  unfold G_X5_append at hG
  show WT κ 0 [some (.inr 10), some (.inl p1), some (.inl p2)] [] mem
  refine tr_iload_n hC dX5_append_0 rfl rfl ?_
  refine tr_iconst (v := (-1)) hC dX5_append_1 (by decide) ?_
  refine tr_icmp_eq hC dX5_append_2 (tgt := 39) rfl (fun c2 => ?_) (fun c2 => ?_)
  · exact tr_vret hC hT dX5_append_39 ⟨rfl, (by rw [M_X5_append, if_pos c2])⟩
  · have hG := hG c2
    refine tr_aload_n hC dX5_append_5 rfl rfl ?_
    refine tr_getr hC dX5_append_6 gf_X5_16 sh_10 rfl ?_
    refine tr_iload_n hC dX5_append_9 rfl rfl ?_
    obtain ⟨g1, hG⟩ := hG
    refine tr_al (v := mem 28 p1.toNatClampNeg) hC dX5_append_10 sh_28 g1 rfl ?_
    refine tr_iconst (v := 4) hC dX5_append_11 (by decide) ?_
    refine tr_icmp_ge hC dX5_append_12 (tgt := 39) rfl (fun c12 => ?_) (fun c12 => ?_)
    · exact tr_vret hC hT dX5_append_39 ⟨rfl, (by rw [M_X5_append, if_neg c2, if_pos c12])⟩
    · have hG := hG c12
      refine tr_aload_n hC dX5_append_15 rfl rfl ?_
      refine tr_getr hC dX5_append_16 gf_X5_11 sh_10 rfl ?_
      refine tr_iload_n hC dX5_append_19 rfl rfl ?_
      refine tr_aald hC dX5_append_20 sh_11 g1 ?_
      refine tr_aload_n hC dX5_append_21 rfl rfl ?_
      refine tr_getr hC dX5_append_22 gf_X5_16 sh_10 rfl ?_
      refine tr_iload_n hC dX5_append_25 rfl rfl ?_
      refine tr_al (v := mem 28 p1.toNatClampNeg) hC dX5_append_26 sh_28 g1 rfl ?_
      refine tr_iload_n hC dX5_append_27 rfl rfl ?_
      have g2 := hG
      refine tr_iast hC dX5_append_28 (shr_11 _ (vp_lt g1)) g2 ?_
      refine tr_aload_n hC dX5_append_29 rfl rfl ?_
      refine tr_getr hC dX5_append_30 gf_X5_16 sh_10 rfl ?_
      refine tr_iload_n hC dX5_append_33 rfl rfl ?_
      refine tr_dup2 hC dX5_append_34 ?_
      refine tr_al (v := mem 28 p1.toNatClampNeg) hC dX5_append_35 sh_28 g1 (ms_ne (by have := (vp_lt g1); omega)) ?_
      refine tr_iconst (v := 1) hC dX5_append_36 (by decide) ?_
      refine tr_iadd hC dX5_append_37 ?_
      refine tr_iast hC dX5_append_38 sh_28 g1 ?_
      exact tr_vret hC hT dX5_append_39 ⟨rfl, (by rw [M_X5_append, if_neg c2, if_neg c12])⟩
def G_X5_addWay (mem : TMem) (p1 : Int32) (p2 : Int32) (p3 : Int32) (p4 : Int32) (p5 : Int32) : Prop := vp_in p1 8 ∧ (((mem 29 p1.toNatClampNeg) < 2 → ((G_X5_append mem ((p1 * 2) + (mem 29 p1.toNatClampNeg)) p2) ∧ ((G_X5_append (M_X5_append mem ((p1 * 2) + (mem 29 p1.toNatClampNeg)) p2) ((p1 * 2) + (mem 29 p1.toNatClampNeg)) p3) ∧ ((G_X5_append (M_X5_append (M_X5_append mem ((p1 * 2) + (mem 29 p1.toNatClampNeg)) p2) ((p1 * 2) + (mem 29 p1.toNatClampNeg)) p3) ((p1 * 2) + (mem 29 p1.toNatClampNeg)) p4) ∧ (G_X5_append (M_X5_append (M_X5_append (M_X5_append mem ((p1 * 2) + (mem 29 p1.toNatClampNeg)) p2) ((p1 * 2) + (mem 29 p1.toNatClampNeg)) p3) ((p1 * 2) + (mem 29 p1.toNatClampNeg)) p4) ((p1 * 2) + (mem 29 p1.toNatClampNeg)) p5))))))
def M_X5_addWay (mem : TMem) (p1 : Int32) (p2 : Int32) (p3 : Int32) (p4 : Int32) (p5 : Int32) : TMem := if (mem 29 p1.toNatClampNeg) < 2 then (mset (M_X5_append (M_X5_append (M_X5_append (M_X5_append mem ((p1 * 2) + (mem 29 p1.toNatClampNeg)) p2) ((p1 * 2) + (mem 29 p1.toNatClampNeg)) p3) ((p1 * 2) + (mem 29 p1.toNatClampNeg)) p4) ((p1 * 2) + (mem 29 p1.toNatClampNeg)) p5) 29 p1.toNatClampNeg (((M_X5_append (M_X5_append (M_X5_append (M_X5_append mem ((p1 * 2) + (mem 29 p1.toNatClampNeg)) p2) ((p1 * 2) + (mem 29 p1.toNatClampNeg)) p3) ((p1 * 2) + (mem 29 p1.toNatClampNeg)) p4) ((p1 * 2) + (mem 29 p1.toNatClampNeg)) p5) 29 p1.toNatClampNeg) + 1)) else mem
set_option maxRecDepth 100000 in
theorem C_X5_addWay (l : Launch) (mem : TMem) (p1 : Int32) (p2 : Int32) (p3 : Int32) (p4 : Int32) (p5 : Int32) (hG : G_X5_addWay mem p1 p2 p3 p4 p5) : TMv l i_X5_addWay 1 22 [.inr 10, .inl p1, .inl p2, .inl p3, .inl p4, .inl p5] mem (fun m => m = M_X5_addWay mem p1 p2 p3 p4 p5) := by
  refine tw_met (by decide) (Nat.le_of_ble_eq_true rfl) (fun κ hl hC hT => ?_)
  subst hl
  unfold G_X5_addWay at hG
  show WT κ 0 [some (.inr 10), some (.inl p1), some (.inl p2), some (.inl p3), some (.inl p4), some (.inl p5), none] [] mem
  refine tr_aload_n hC dX5_addWay_0 rfl rfl ?_
  refine tr_getr hC dX5_addWay_1 gf_X5_20 sh_10 rfl ?_
  refine tr_iload_n hC dX5_addWay_4 rfl rfl ?_
  obtain ⟨g1, hG⟩ := hG
  refine tr_al (v := mem 29 p1.toNatClampNeg) hC dX5_addWay_5 sh_29 g1 rfl ?_
  refine tr_iconst (v := 2) hC dX5_addWay_6 (by decide) ?_
  refine tr_icmp_lt hC dX5_addWay_7 (tgt := 11) rfl (fun c7 => ?_) (fun c7 => ?_)
  · have hG := hG c7
    refine tr_iload_n hC dX5_addWay_11 rfl rfl ?_
    refine tr_iconst (v := 2) hC dX5_addWay_12 (by decide) ?_
    refine tr_imul hC dX5_addWay_13 ?_
    refine tr_aload_n hC dX5_addWay_14 rfl rfl ?_
    refine tr_getr hC dX5_addWay_15 gf_X5_20 sh_10 rfl ?_
    refine tr_iload_n hC dX5_addWay_18 rfl rfl ?_
    refine tr_al (v := mem 29 p1.toNatClampNeg) hC dX5_addWay_19 sh_29 g1 rfl ?_
    refine tr_iadd hC dX5_addWay_20 ?_
    refine tr_istore (loc2 := [some (.inr 10), some (.inl p1), some (.inl p2), some (.inl p3), some (.inl p4), some (.inl p5), some (.inl ((p1 * 2) + (mem 29 p1.toNatClampNeg)))]) hC dX5_addWay_21 (by decide) rfl ?_
    refine tr_aload_n hC dX5_addWay_23 rfl rfl ?_
    refine tr_iload hC dX5_addWay_24 rfl ?_
    refine tr_iload_n hC dX5_addWay_26 rfl rfl ?_
    obtain ⟨g2, hG⟩ := hG
    refine tr_xVv (As := [.inl ((p1 * 2) + (mem 29 p1.toNatClampNeg)), .inl p2]) (fr2 := 0) (lo2 := 0) hC dX5_addWay_27 mc_X5_30 mv_X5_append sh_10 rfl ⟨Nat.le_of_ble_eq_true rfl, Nat.le_of_ble_eq_true rfl, Nat.le_of_ble_eq_true rfl⟩ rfl (C_X5_append _ mem ((p1 * 2) + (mem 29 p1.toNatClampNeg)) p2 g2) ?_
    refine tr_aload_n hC dX5_addWay_30 rfl rfl ?_
    refine tr_iload hC dX5_addWay_31 rfl ?_
    refine tr_iload_n hC dX5_addWay_33 rfl rfl ?_
    obtain ⟨g3, hG⟩ := hG
    refine tr_xVv (As := [.inl ((p1 * 2) + (mem 29 p1.toNatClampNeg)), .inl p3]) (fr2 := 0) (lo2 := 0) hC dX5_addWay_34 mc_X5_30 mv_X5_append sh_10 rfl ⟨Nat.le_of_ble_eq_true rfl, Nat.le_of_ble_eq_true rfl, Nat.le_of_ble_eq_true rfl⟩ rfl (C_X5_append _ (M_X5_append mem ((p1 * 2) + (mem 29 p1.toNatClampNeg)) p2) ((p1 * 2) + (mem 29 p1.toNatClampNeg)) p3 g3) ?_
    refine tr_aload_n hC dX5_addWay_37 rfl rfl ?_
    refine tr_iload hC dX5_addWay_38 rfl ?_
    refine tr_iload hC dX5_addWay_40 rfl ?_
    obtain ⟨g4, hG⟩ := hG
    refine tr_xVv (As := [.inl ((p1 * 2) + (mem 29 p1.toNatClampNeg)), .inl p4]) (fr2 := 0) (lo2 := 0) hC dX5_addWay_42 mc_X5_30 mv_X5_append sh_10 rfl ⟨Nat.le_of_ble_eq_true rfl, Nat.le_of_ble_eq_true rfl, Nat.le_of_ble_eq_true rfl⟩ rfl (C_X5_append _ (M_X5_append (M_X5_append mem ((p1 * 2) + (mem 29 p1.toNatClampNeg)) p2) ((p1 * 2) + (mem 29 p1.toNatClampNeg)) p3) ((p1 * 2) + (mem 29 p1.toNatClampNeg)) p4 g4) ?_
    refine tr_aload_n hC dX5_addWay_45 rfl rfl ?_
    refine tr_iload hC dX5_addWay_46 rfl ?_
    refine tr_iload hC dX5_addWay_48 rfl ?_
    have g5 := hG
    refine tr_xVv (As := [.inl ((p1 * 2) + (mem 29 p1.toNatClampNeg)), .inl p5]) (fr2 := 0) (lo2 := 0) hC dX5_addWay_50 mc_X5_30 mv_X5_append sh_10 rfl ⟨Nat.le_of_ble_eq_true rfl, Nat.le_of_ble_eq_true rfl, Nat.le_of_ble_eq_true rfl⟩ rfl (C_X5_append _ (M_X5_append (M_X5_append (M_X5_append mem ((p1 * 2) + (mem 29 p1.toNatClampNeg)) p2) ((p1 * 2) + (mem 29 p1.toNatClampNeg)) p3) ((p1 * 2) + (mem 29 p1.toNatClampNeg)) p4) ((p1 * 2) + (mem 29 p1.toNatClampNeg)) p5 g5) ?_
    refine tr_aload_n hC dX5_addWay_53 rfl rfl ?_
    refine tr_getr hC dX5_addWay_54 gf_X5_20 sh_10 rfl ?_
    refine tr_iload_n hC dX5_addWay_57 rfl rfl ?_
    refine tr_dup2 hC dX5_addWay_58 ?_
    refine tr_al (v := (M_X5_append (M_X5_append (M_X5_append (M_X5_append mem ((p1 * 2) + (mem 29 p1.toNatClampNeg)) p2) ((p1 * 2) + (mem 29 p1.toNatClampNeg)) p3) ((p1 * 2) + (mem 29 p1.toNatClampNeg)) p4) ((p1 * 2) + (mem 29 p1.toNatClampNeg)) p5) 29 p1.toNatClampNeg) hC dX5_addWay_59 sh_29 g1 rfl ?_
    refine tr_iconst (v := 1) hC dX5_addWay_60 (by decide) ?_
    refine tr_iadd hC dX5_addWay_61 ?_
    refine tr_iast hC dX5_addWay_62 sh_29 g1 ?_
    exact tr_vret hC hT dX5_addWay_63 ⟨rfl, (by rw [M_X5_addWay, if_pos c7])⟩
  · exact tr_vret hC hT dX5_addWay_10 ⟨rfl, (by rw [M_X5_addWay, if_neg c7])⟩
def G_X10_word (mem : TMem) (p1 : Int32) (p2 : Int32) (p3 : Int32) (p4 : Int32) : Prop := (¬ ((F_X10_areSounds p1 p2 p3 p4) = 0) → (((mem 10 4) < 8 → G_X5_addWay (M_X5_addWord (mset (mset mem 40 6 0) 108 5 0)) (mem 10 4) p1 p2 p3 p4)))
def F_X10_word (mem : TMem) (p1 : Int32) (p2 : Int32) (p3 : Int32) (p4 : Int32) : Int32 := if (F_X10_areSounds p1 p2 p3 p4) = 0 then (-2) else if (mem 10 4) < 8 then mem 10 4 else (-4)
def M_X10_word (mem : TMem) (p1 : Int32) (p2 : Int32) (p3 : Int32) (p4 : Int32) : TMem := if (F_X10_areSounds p1 p2 p3 p4) = 0 then mem else if (mem 10 4) < 8 then (M_X5_addWay (M_X5_addWord (mset (mset mem 40 6 0) 108 5 0)) (mem 10 4) p1 p2 p3 p4) else mem
set_option maxRecDepth 100000 in
theorem C_X10_word (l : Launch) (mem : TMem) (p1 : Int32) (p2 : Int32) (p3 : Int32) (p4 : Int32) (hG : G_X10_word mem p1 p2 p3 p4) : TMi l i_X10_word 4 86 [.inr 0, .inl p1, .inl p2, .inl p3, .inl p4] mem (fun x m => x = F_X10_word mem p1 p2 p3 p4 ∧ m = M_X10_word mem p1 p2 p3 p4) := by
  refine tw_met (by decide) (Nat.le_of_ble_eq_true rfl) (fun κ hl hC hT => ?_)
  subst hl
  unfold G_X10_word at hG
  show WT κ 0 [some (.inr 0), some (.inl p1), some (.inl p2), some (.inl p3), some (.inl p4), none] [] mem
  refine tr_iload_n hC dX10_word_0 rfl rfl ?_
  refine tr_iload_n hC dX10_word_1 rfl rfl ?_
  refine tr_iload_n hC dX10_word_2 rfl rfl ?_
  refine tr_iload hC dX10_word_3 rfl ?_
  refine tr_xSi (As := [.inl p1, .inl p2, .inl p3, .inl p4]) (fr2 := 3) (lo2 := 63) hC dX10_word_5 mc_X10_112 mst_X10_areSounds ⟨Nat.le_of_ble_eq_true rfl, Nat.le_of_ble_eq_true rfl, Nat.le_of_ble_eq_true rfl⟩ rfl (C_X10_areSounds _ mem p1 p2 p3 p4) ?_
  refine tr_if_ne hC dX10_word_8 (tgt := 14) rfl (fun c8 => ?_) (fun c8 => ?_)
  · have hG := hG c8
    refine tr_aload_n hC dX10_word_14 rfl rfl ?_
    refine tr_getr hC dX10_word_15 gf_X10_19 sh_0 rfl ?_
    refine tr_xVi (As := []) (fr2 := 0) (lo2 := 0) hC dX10_word_18 mc_X10_116 mv_X5_words sh_10 rfl ⟨Nat.le_of_ble_eq_true rfl, Nat.le_of_ble_eq_true rfl, Nat.le_of_ble_eq_true rfl⟩ rfl (C_X5_words _ mem ) ?_
    refine tr_bipush (v := 8) hC dX10_word_21 (by decide) ?_
    refine tr_icmp_lt hC dX10_word_23 (tgt := 29) rfl (fun c23 => ?_) (fun c23 => ?_)
    · have hG := hG c23
      refine tr_aload_n hC dX10_word_29 rfl rfl ?_
      refine tr_getr hC dX10_word_30 gf_X10_19 sh_0 rfl ?_
      refine tr_xVi (As := []) (fr2 := 0) (lo2 := 0) hC dX10_word_33 mc_X10_116 mv_X5_words sh_10 rfl ⟨Nat.le_of_ble_eq_true rfl, Nat.le_of_ble_eq_true rfl, Nat.le_of_ble_eq_true rfl⟩ rfl (C_X5_words _ mem ) ?_
      refine tr_istore (loc2 := [some (.inr 0), some (.inl p1), some (.inl p2), some (.inl p3), some (.inl p4), some (.inl (mem 10 4))]) hC dX10_word_36 (by decide) rfl ?_
      refine tr_aload_n hC dX10_word_38 rfl rfl ?_
      refine tr_xVv (As := []) (fr2 := 1) (lo2 := 20) hC dX10_word_39 mc_X10_82 mv_X10_endWhatLeansOnThis sh_0 rfl ⟨Nat.le_of_ble_eq_true rfl, Nat.le_of_ble_eq_true rfl, Nat.le_of_ble_eq_true rfl⟩ rfl (C_X10_endWhatLeansOnThis _ mem ) ?_
      refine tr_aload_n hC dX10_word_42 rfl rfl ?_
      refine tr_getr hC dX10_word_43 gf_X10_19 sh_0 rfl ?_
      refine tr_xVv (As := []) (fr2 := 0) (lo2 := 0) hC dX10_word_46 mc_X10_119 mv_X5_addWord sh_10 rfl ⟨Nat.le_of_ble_eq_true rfl, Nat.le_of_ble_eq_true rfl, Nat.le_of_ble_eq_true rfl⟩ rfl (C_X5_addWord _ (mset (mset mem 40 6 0) 108 5 0) ) ?_
      refine tr_aload_n hC dX10_word_49 rfl rfl ?_
      refine tr_getr hC dX10_word_50 gf_X10_19 sh_0 rfl ?_
      refine tr_iload hC dX10_word_53 rfl ?_
      refine tr_iload_n hC dX10_word_55 rfl rfl ?_
      refine tr_iload_n hC dX10_word_56 rfl rfl ?_
      refine tr_iload_n hC dX10_word_57 rfl rfl ?_
      refine tr_iload hC dX10_word_58 rfl ?_
      have g1 := hG
      refine tr_xVv (As := [.inl (mem 10 4), .inl p1, .inl p2, .inl p3, .inl p4]) (fr2 := 1) (lo2 := 22) hC dX10_word_60 mc_X10_122 mv_X5_addWay sh_10 rfl ⟨Nat.le_of_ble_eq_true rfl, Nat.le_of_ble_eq_true rfl, Nat.le_of_ble_eq_true rfl⟩ rfl (C_X5_addWay _ (M_X5_addWord (mset (mset mem 40 6 0) 108 5 0)) (mem 10 4) p1 p2 p3 p4 g1) ?_
      refine tr_iload hC dX10_word_63 rfl ?_
      exact tr_iret hC hT dX10_word_65 ⟨_, rfl, (by rw [F_X10_word, if_neg c8, if_pos c23]), (by rw [M_X10_word, if_neg c8, if_pos c23])⟩
    · refine tr_bipush (v := (-4)) hC dX10_word_26 (by decide) ?_
      exact tr_iret hC hT dX10_word_28 ⟨_, rfl, (by rw [F_X10_word, if_neg c8, if_neg c23]), (by rw [M_X10_word, if_neg c8, if_neg c23])⟩
  · refine tr_bipush (v := (-2)) hC dX10_word_11 (by decide) ?_
    exact tr_iret hC hT dX10_word_13 ⟨_, rfl, (by rw [F_X10_word, if_pos c8]), (by rw [M_X10_word, if_pos c8])⟩
def F_X11_manyOf (p1 : Int32) (p2 : Int32) (p3 : Int32) (p4 : Int32) : Int32 := if (F_X11_in p1 0 5) = 0 then (-1) else if (F_X11_in p2 (-1) 5) = 0 then (-1) else if (F_X11_in p3 (-1) 5) = 0 then (-1) else if (F_X11_in p4 (-1) 5) = 0 then (-1) else if p2 = (-1) then if p3 = (-1) then if p4 = (-1) then 1 else (-1) else (-1) else if p3 = (-1) then if p4 = (-1) then 2 else (-1) else if p4 = (-1) then 3 else 4
set_option maxRecDepth 100000 in
theorem C_X11_manyOf (l : Launch) (mem : TMem) (p1 : Int32) (p2 : Int32) (p3 : Int32) (p4 : Int32) : TMi l i_X11_manyOf 1 22 [.inl p1, .inl p2, .inl p3, .inl p4] mem (fun x m => x = F_X11_manyOf p1 p2 p3 p4 ∧ m = mem) := by
  refine tw_met (by decide) (Nat.le_of_ble_eq_true rfl) (fun κ hl hC hT => ?_)
  subst hl
  show WT κ 0 [some (.inl p1), some (.inl p2), some (.inl p3), some (.inl p4), none] [] mem
  refine tr_iload_n hC dX11_manyOf_0 rfl rfl ?_
  refine tr_iconst (v := 0) hC dX11_manyOf_1 (by decide) ?_
  refine tr_iconst (v := 5) hC dX11_manyOf_2 (by decide) ?_
  refine tr_xSi (As := [.inl p1, .inl 0, .inl 5]) (fr2 := 0) (lo2 := 0) hC dX11_manyOf_3 mc_X11_89 mst_X11_in ⟨Nat.le_of_ble_eq_true rfl, Nat.le_of_ble_eq_true rfl, Nat.le_of_ble_eq_true rfl⟩ rfl (C_X11_in _ mem p1 0 5) ?_
  refine tr_if_eq hC dX11_manyOf_6 (tgt := 60) rfl (fun c6 => ?_) (fun c6 => ?_)
  · refine tr_iconst (v := 0) hC dX11_manyOf_60 (by decide) ?_
    refine tr_istore (loc2 := [some (.inl p1), some (.inl p2), some (.inl p3), some (.inl p4), some (.inl 0)]) hC dX11_manyOf_61 (by decide) rfl ?_
    refine tr_iload hC dX11_manyOf_63 rfl ?_
    refine tr_if_ne hC dX11_manyOf_65 (tgt := 72) rfl (fun h => absurd h (by decide)) (fun _ => ?_)
    refine tr_iconst (v := (-1)) hC dX11_manyOf_68 (by decide) ?_
    refine tr_goto hC dX11_manyOf_69 (tgt := 100) rfl ?_
    exact tr_iret hC hT dX11_manyOf_100 ⟨_, rfl, (by rw [F_X11_manyOf, if_pos c6]), rfl⟩
  · refine tr_iload_n hC dX11_manyOf_9 rfl rfl ?_
    refine tr_iconst (v := (-1)) hC dX11_manyOf_10 (by decide) ?_
    refine tr_iconst (v := 5) hC dX11_manyOf_11 (by decide) ?_
    refine tr_xSi (As := [.inl p2, .inl (-1), .inl 5]) (fr2 := 0) (lo2 := 0) hC dX11_manyOf_12 mc_X11_89 mst_X11_in ⟨Nat.le_of_ble_eq_true rfl, Nat.le_of_ble_eq_true rfl, Nat.le_of_ble_eq_true rfl⟩ rfl (C_X11_in _ mem p2 (-1) 5) ?_
    refine tr_if_eq hC dX11_manyOf_15 (tgt := 60) rfl (fun c15 => ?_) (fun c15 => ?_)
    · refine tr_iconst (v := 0) hC dX11_manyOf_60 (by decide) ?_
      refine tr_istore (loc2 := [some (.inl p1), some (.inl p2), some (.inl p3), some (.inl p4), some (.inl 0)]) hC dX11_manyOf_61 (by decide) rfl ?_
      refine tr_iload hC dX11_manyOf_63 rfl ?_
      refine tr_if_ne hC dX11_manyOf_65 (tgt := 72) rfl (fun h => absurd h (by decide)) (fun _ => ?_)
      refine tr_iconst (v := (-1)) hC dX11_manyOf_68 (by decide) ?_
      refine tr_goto hC dX11_manyOf_69 (tgt := 100) rfl ?_
      exact tr_iret hC hT dX11_manyOf_100 ⟨_, rfl, (by rw [F_X11_manyOf, if_neg c6, if_pos c15]), rfl⟩
    · refine tr_iload_n hC dX11_manyOf_18 rfl rfl ?_
      refine tr_iconst (v := (-1)) hC dX11_manyOf_19 (by decide) ?_
      refine tr_iconst (v := 5) hC dX11_manyOf_20 (by decide) ?_
      refine tr_xSi (As := [.inl p3, .inl (-1), .inl 5]) (fr2 := 0) (lo2 := 0) hC dX11_manyOf_21 mc_X11_89 mst_X11_in ⟨Nat.le_of_ble_eq_true rfl, Nat.le_of_ble_eq_true rfl, Nat.le_of_ble_eq_true rfl⟩ rfl (C_X11_in _ mem p3 (-1) 5) ?_
      refine tr_if_eq hC dX11_manyOf_24 (tgt := 60) rfl (fun c24 => ?_) (fun c24 => ?_)
      · refine tr_iconst (v := 0) hC dX11_manyOf_60 (by decide) ?_
        refine tr_istore (loc2 := [some (.inl p1), some (.inl p2), some (.inl p3), some (.inl p4), some (.inl 0)]) hC dX11_manyOf_61 (by decide) rfl ?_
        refine tr_iload hC dX11_manyOf_63 rfl ?_
        refine tr_if_ne hC dX11_manyOf_65 (tgt := 72) rfl (fun h => absurd h (by decide)) (fun _ => ?_)
        refine tr_iconst (v := (-1)) hC dX11_manyOf_68 (by decide) ?_
        refine tr_goto hC dX11_manyOf_69 (tgt := 100) rfl ?_
        exact tr_iret hC hT dX11_manyOf_100 ⟨_, rfl, (by rw [F_X11_manyOf, if_neg c6, if_neg c15, if_pos c24]), rfl⟩
      · refine tr_iload_n hC dX11_manyOf_27 rfl rfl ?_
        refine tr_iconst (v := (-1)) hC dX11_manyOf_28 (by decide) ?_
        refine tr_iconst (v := 5) hC dX11_manyOf_29 (by decide) ?_
        refine tr_xSi (As := [.inl p4, .inl (-1), .inl 5]) (fr2 := 0) (lo2 := 0) hC dX11_manyOf_30 mc_X11_89 mst_X11_in ⟨Nat.le_of_ble_eq_true rfl, Nat.le_of_ble_eq_true rfl, Nat.le_of_ble_eq_true rfl⟩ rfl (C_X11_in _ mem p4 (-1) 5) ?_
        refine tr_if_eq hC dX11_manyOf_33 (tgt := 60) rfl (fun c33 => ?_) (fun c33 => ?_)
        · refine tr_iconst (v := 0) hC dX11_manyOf_60 (by decide) ?_
          refine tr_istore (loc2 := [some (.inl p1), some (.inl p2), some (.inl p3), some (.inl p4), some (.inl 0)]) hC dX11_manyOf_61 (by decide) rfl ?_
          refine tr_iload hC dX11_manyOf_63 rfl ?_
          refine tr_if_ne hC dX11_manyOf_65 (tgt := 72) rfl (fun h => absurd h (by decide)) (fun _ => ?_)
          refine tr_iconst (v := (-1)) hC dX11_manyOf_68 (by decide) ?_
          refine tr_goto hC dX11_manyOf_69 (tgt := 100) rfl ?_
          exact tr_iret hC hT dX11_manyOf_100 ⟨_, rfl, (by rw [F_X11_manyOf, if_neg c6, if_neg c15, if_neg c24, if_pos c33]), rfl⟩
        · refine tr_iload_n hC dX11_manyOf_36 rfl rfl ?_
          refine tr_iconst (v := (-1)) hC dX11_manyOf_37 (by decide) ?_
          refine tr_icmp_ne hC dX11_manyOf_38 (tgt := 46) rfl (fun c38 => ?_) (fun c38 => ?_)
          · refine tr_iload_n hC dX11_manyOf_46 rfl rfl ?_
            refine tr_iconst (v := (-1)) hC dX11_manyOf_47 (by decide) ?_
            refine tr_icmp_ne hC dX11_manyOf_48 (tgt := 56) rfl (fun c48 => ?_) (fun c48 => ?_)
            · refine tr_iconst (v := 1) hC dX11_manyOf_56 (by decide) ?_
              refine tr_goto hC dX11_manyOf_57 (tgt := 61) rfl ?_
              refine tr_istore (loc2 := [some (.inl p1), some (.inl p2), some (.inl p3), some (.inl p4), some (.inl 1)]) hC dX11_manyOf_61 (by decide) rfl ?_
              refine tr_iload hC dX11_manyOf_63 rfl ?_
              refine tr_if_ne hC dX11_manyOf_65 (tgt := 72) rfl (fun _ => ?_) (fun h => absurd h (by decide))
              refine tr_iload_n hC dX11_manyOf_72 rfl rfl ?_
              refine tr_iconst (v := (-1)) hC dX11_manyOf_73 (by decide) ?_
              refine tr_icmp_eq hC dX11_manyOf_74 (tgt := 81) rfl (fun c74 => ?_) (fun c74 => ?_)
              · refine tr_iload_n hC dX11_manyOf_81 rfl rfl ?_
                refine tr_iconst (v := (-1)) hC dX11_manyOf_82 (by decide) ?_
                refine tr_icmp_eq hC dX11_manyOf_83 (tgt := 90) rfl (fun h => absurd h c48) (fun _ => ?_)
                refine tr_iconst (v := 3) hC dX11_manyOf_86 (by decide) ?_
                refine tr_goto hC dX11_manyOf_87 (tgt := 100) rfl ?_
                exact tr_iret hC hT dX11_manyOf_100 ⟨_, rfl, (by rw [F_X11_manyOf, if_neg c6, if_neg c15, if_neg c24, if_neg c33, if_neg c38, if_neg c48, if_pos c74]), rfl⟩
              · refine tr_iconst (v := 4) hC dX11_manyOf_77 (by decide) ?_
                refine tr_goto hC dX11_manyOf_78 (tgt := 100) rfl ?_
                exact tr_iret hC hT dX11_manyOf_100 ⟨_, rfl, (by rw [F_X11_manyOf, if_neg c6, if_neg c15, if_neg c24, if_neg c33, if_neg c38, if_neg c48, if_neg c74]), rfl⟩
            · refine tr_iload_n hC dX11_manyOf_51 rfl rfl ?_
              refine tr_iconst (v := (-1)) hC dX11_manyOf_52 (by decide) ?_
              refine tr_icmp_ne hC dX11_manyOf_53 (tgt := 60) rfl (fun c53 => ?_) (fun c53 => ?_)
              · refine tr_iconst (v := 0) hC dX11_manyOf_60 (by decide) ?_
                refine tr_istore (loc2 := [some (.inl p1), some (.inl p2), some (.inl p3), some (.inl p4), some (.inl 0)]) hC dX11_manyOf_61 (by decide) rfl ?_
                refine tr_iload hC dX11_manyOf_63 rfl ?_
                refine tr_if_ne hC dX11_manyOf_65 (tgt := 72) rfl (fun h => absurd h (by decide)) (fun _ => ?_)
                refine tr_iconst (v := (-1)) hC dX11_manyOf_68 (by decide) ?_
                refine tr_goto hC dX11_manyOf_69 (tgt := 100) rfl ?_
                exact tr_iret hC hT dX11_manyOf_100 ⟨_, rfl, (by rw [F_X11_manyOf, if_neg c6, if_neg c15, if_neg c24, if_neg c33, if_neg c38, if_pos c48, if_neg c53]), rfl⟩
              · refine tr_iconst (v := 1) hC dX11_manyOf_56 (by decide) ?_
                refine tr_goto hC dX11_manyOf_57 (tgt := 61) rfl ?_
                refine tr_istore (loc2 := [some (.inl p1), some (.inl p2), some (.inl p3), some (.inl p4), some (.inl 1)]) hC dX11_manyOf_61 (by decide) rfl ?_
                refine tr_iload hC dX11_manyOf_63 rfl ?_
                refine tr_if_ne hC dX11_manyOf_65 (tgt := 72) rfl (fun _ => ?_) (fun h => absurd h (by decide))
                refine tr_iload_n hC dX11_manyOf_72 rfl rfl ?_
                refine tr_iconst (v := (-1)) hC dX11_manyOf_73 (by decide) ?_
                refine tr_icmp_eq hC dX11_manyOf_74 (tgt := 81) rfl (fun _ => ?_) (fun h => absurd c53 h)
                refine tr_iload_n hC dX11_manyOf_81 rfl rfl ?_
                refine tr_iconst (v := (-1)) hC dX11_manyOf_82 (by decide) ?_
                refine tr_icmp_eq hC dX11_manyOf_83 (tgt := 90) rfl (fun _ => ?_) (fun h => absurd c48 h)
                refine tr_iload_n hC dX11_manyOf_90 rfl rfl ?_
                refine tr_iconst (v := (-1)) hC dX11_manyOf_91 (by decide) ?_
                refine tr_icmp_eq hC dX11_manyOf_92 (tgt := 99) rfl (fun h => absurd h c38) (fun _ => ?_)
                refine tr_iconst (v := 2) hC dX11_manyOf_95 (by decide) ?_
                refine tr_goto hC dX11_manyOf_96 (tgt := 100) rfl ?_
                exact tr_iret hC hT dX11_manyOf_100 ⟨_, rfl, (by rw [F_X11_manyOf, if_neg c6, if_neg c15, if_neg c24, if_neg c33, if_neg c38, if_pos c48, if_pos c53]), rfl⟩
          · refine tr_iload_n hC dX11_manyOf_41 rfl rfl ?_
            refine tr_iconst (v := (-1)) hC dX11_manyOf_42 (by decide) ?_
            refine tr_icmp_ne hC dX11_manyOf_43 (tgt := 60) rfl (fun c43 => ?_) (fun c43 => ?_)
            · refine tr_iconst (v := 0) hC dX11_manyOf_60 (by decide) ?_
              refine tr_istore (loc2 := [some (.inl p1), some (.inl p2), some (.inl p3), some (.inl p4), some (.inl 0)]) hC dX11_manyOf_61 (by decide) rfl ?_
              refine tr_iload hC dX11_manyOf_63 rfl ?_
              refine tr_if_ne hC dX11_manyOf_65 (tgt := 72) rfl (fun h => absurd h (by decide)) (fun _ => ?_)
              refine tr_iconst (v := (-1)) hC dX11_manyOf_68 (by decide) ?_
              refine tr_goto hC dX11_manyOf_69 (tgt := 100) rfl ?_
              exact tr_iret hC hT dX11_manyOf_100 ⟨_, rfl, (by rw [F_X11_manyOf, if_neg c6, if_neg c15, if_neg c24, if_neg c33, if_pos c38, if_neg c43]), rfl⟩
            · refine tr_iload_n hC dX11_manyOf_46 rfl rfl ?_
              refine tr_iconst (v := (-1)) hC dX11_manyOf_47 (by decide) ?_
              refine tr_icmp_ne hC dX11_manyOf_48 (tgt := 56) rfl (fun h => absurd c43 h) (fun _ => ?_)
              refine tr_iload_n hC dX11_manyOf_51 rfl rfl ?_
              refine tr_iconst (v := (-1)) hC dX11_manyOf_52 (by decide) ?_
              refine tr_icmp_ne hC dX11_manyOf_53 (tgt := 60) rfl (fun c53 => ?_) (fun c53 => ?_)
              · refine tr_iconst (v := 0) hC dX11_manyOf_60 (by decide) ?_
                refine tr_istore (loc2 := [some (.inl p1), some (.inl p2), some (.inl p3), some (.inl p4), some (.inl 0)]) hC dX11_manyOf_61 (by decide) rfl ?_
                refine tr_iload hC dX11_manyOf_63 rfl ?_
                refine tr_if_ne hC dX11_manyOf_65 (tgt := 72) rfl (fun h => absurd h (by decide)) (fun _ => ?_)
                refine tr_iconst (v := (-1)) hC dX11_manyOf_68 (by decide) ?_
                refine tr_goto hC dX11_manyOf_69 (tgt := 100) rfl ?_
                exact tr_iret hC hT dX11_manyOf_100 ⟨_, rfl, (by rw [F_X11_manyOf, if_neg c6, if_neg c15, if_neg c24, if_neg c33, if_pos c38, if_pos c43, if_neg c53]), rfl⟩
              · refine tr_iconst (v := 1) hC dX11_manyOf_56 (by decide) ?_
                refine tr_goto hC dX11_manyOf_57 (tgt := 61) rfl ?_
                refine tr_istore (loc2 := [some (.inl p1), some (.inl p2), some (.inl p3), some (.inl p4), some (.inl 1)]) hC dX11_manyOf_61 (by decide) rfl ?_
                refine tr_iload hC dX11_manyOf_63 rfl ?_
                refine tr_if_ne hC dX11_manyOf_65 (tgt := 72) rfl (fun _ => ?_) (fun h => absurd h (by decide))
                refine tr_iload_n hC dX11_manyOf_72 rfl rfl ?_
                refine tr_iconst (v := (-1)) hC dX11_manyOf_73 (by decide) ?_
                refine tr_icmp_eq hC dX11_manyOf_74 (tgt := 81) rfl (fun _ => ?_) (fun h => absurd c53 h)
                refine tr_iload_n hC dX11_manyOf_81 rfl rfl ?_
                refine tr_iconst (v := (-1)) hC dX11_manyOf_82 (by decide) ?_
                refine tr_icmp_eq hC dX11_manyOf_83 (tgt := 90) rfl (fun _ => ?_) (fun h => absurd c43 h)
                refine tr_iload_n hC dX11_manyOf_90 rfl rfl ?_
                refine tr_iconst (v := (-1)) hC dX11_manyOf_91 (by decide) ?_
                refine tr_icmp_eq hC dX11_manyOf_92 (tgt := 99) rfl (fun _ => ?_) (fun h => absurd c38 h)
                refine tr_iconst (v := 1) hC dX11_manyOf_99 (by decide) ?_
                exact tr_iret hC hT dX11_manyOf_100 ⟨_, rfl, (by rw [F_X11_manyOf, if_neg c6, if_neg c15, if_neg c24, if_neg c33, if_pos c38, if_pos c43, if_pos c53]), rfl⟩
def G_X11_layWay (p1 : Int32) (p2 : Int32) (p3 : Int32) (p4 : Int32) (p5 : Int32) (p6 : Int32) : Prop := vp_in p1 16 ∧ ((vp_in (4 * p1) 64) ∧ ((vp_in ((4 * p1) + 1) 64) ∧ ((vp_in ((4 * p1) + 2) 64) ∧ (vp_in ((4 * p1) + 3) 64))))
set_option maxRecDepth 100000 in
theorem C_X11_layWay (l : Launch) (mem : TMem) (p1 : Int32) (p2 : Int32) (p3 : Int32) (p4 : Int32) (p5 : Int32) (p6 : Int32) (hG : G_X11_layWay p1 p2 p3 p4 p5 p6) : TMv l i_X11_layWay 0 0 [.inr 187, .inl p1, .inl p2, .inl p3, .inl p4, .inl p5, .inl p6] mem (fun m => m = (mset (mset (mset (mset (mset (mset mem 191 p1.toNatClampNeg p2) 192 (Int32.toNatClampNeg (4 * p1)) p3) 192 (Int32.toNatClampNeg ((4 * p1) + 1)) p4) 192 (Int32.toNatClampNeg ((4 * p1) + 2)) p5) 192 (Int32.toNatClampNeg ((4 * p1) + 3)) p6) 187 11 0)) := by
  refine tw_met (by decide) (Nat.le_of_ble_eq_true rfl) (fun κ hl hC hT => ?_)
  subst hl
  unfold G_X11_layWay at hG
  show WT κ 0 [some (.inr 187), some (.inl p1), some (.inl p2), some (.inl p3), some (.inl p4), some (.inl p5), some (.inl p6)] [] mem
  refine tr_aload_n hC dX11_layWay_0 rfl rfl ?_
  refine tr_getr hC dX11_layWay_1 gf_X11_23 sh_187 rfl ?_
  refine tr_iload_n hC dX11_layWay_4 rfl rfl ?_
  refine tr_iload_n hC dX11_layWay_5 rfl rfl ?_
  obtain ⟨g1, hG⟩ := hG
  refine tr_iast hC dX11_layWay_6 sh_191 g1 ?_
  refine tr_aload_n hC dX11_layWay_7 rfl rfl ?_
  refine tr_getr hC dX11_layWay_8 gf_X11_26 sh_187 rfl ?_
  refine tr_iconst (v := 4) hC dX11_layWay_11 (by decide) ?_
  refine tr_iload_n hC dX11_layWay_12 rfl rfl ?_
  refine tr_imul hC dX11_layWay_13 ?_
  refine tr_iload_n hC dX11_layWay_14 rfl rfl ?_
  obtain ⟨g2, hG⟩ := hG
  refine tr_iast hC dX11_layWay_15 sh_192 g2 ?_
  refine tr_aload_n hC dX11_layWay_16 rfl rfl ?_
  refine tr_getr hC dX11_layWay_17 gf_X11_26 sh_187 rfl ?_
  refine tr_iconst (v := 4) hC dX11_layWay_20 (by decide) ?_
  refine tr_iload_n hC dX11_layWay_21 rfl rfl ?_
  refine tr_imul hC dX11_layWay_22 ?_
  refine tr_iconst (v := 1) hC dX11_layWay_23 (by decide) ?_
  refine tr_iadd hC dX11_layWay_24 ?_
  refine tr_iload hC dX11_layWay_25 rfl ?_
  obtain ⟨g3, hG⟩ := hG
  refine tr_iast hC dX11_layWay_27 sh_192 g3 ?_
  refine tr_aload_n hC dX11_layWay_28 rfl rfl ?_
  refine tr_getr hC dX11_layWay_29 gf_X11_26 sh_187 rfl ?_
  refine tr_iconst (v := 4) hC dX11_layWay_32 (by decide) ?_
  refine tr_iload_n hC dX11_layWay_33 rfl rfl ?_
  refine tr_imul hC dX11_layWay_34 ?_
  refine tr_iconst (v := 2) hC dX11_layWay_35 (by decide) ?_
  refine tr_iadd hC dX11_layWay_36 ?_
  refine tr_iload hC dX11_layWay_37 rfl ?_
  obtain ⟨g4, hG⟩ := hG
  refine tr_iast hC dX11_layWay_39 sh_192 g4 ?_
  refine tr_aload_n hC dX11_layWay_40 rfl rfl ?_
  refine tr_getr hC dX11_layWay_41 gf_X11_26 sh_187 rfl ?_
  refine tr_iconst (v := 4) hC dX11_layWay_44 (by decide) ?_
  refine tr_iload_n hC dX11_layWay_45 rfl rfl ?_
  refine tr_imul hC dX11_layWay_46 ?_
  refine tr_iconst (v := 3) hC dX11_layWay_47 (by decide) ?_
  refine tr_iadd hC dX11_layWay_48 ?_
  refine tr_iload hC dX11_layWay_49 rfl ?_
  have g5 := hG
  refine tr_iast hC dX11_layWay_51 sh_192 g5 ?_
  refine tr_aload_n hC dX11_layWay_52 rfl rfl ?_
  refine tr_iconst (v := 0) hC dX11_layWay_53 (by decide) ?_
  refine tr_puti hC dX11_layWay_54 gp_X11_96 sh_187 rfl (by decide) (by decide) ?_
  exact tr_vret hC hT dX11_layWay_57 ⟨rfl, rfl⟩
def G_X11_word (mem : TMem) (p1 : Int32) (p2 : Int32) (p3 : Int32) (p4 : Int32) : Prop := (¬ ((F_X11_manyOf p1 p2 p3 p4) = (-1)) → ((¬ ((mem 187 4) = 8) → ((G_X11_layWay (2 * (mem 187 4)) (F_X11_manyOf p1 p2 p3 p4) p1 p2 p3 p4) ∧ vp_in (mem 187 4) 8))))
def F_X11_word (mem : TMem) (p1 : Int32) (p2 : Int32) (p3 : Int32) (p4 : Int32) : Int32 := if (F_X11_manyOf p1 p2 p3 p4) = (-1) then (-2) else if (mem 187 4) = 8 then (-4) else ((mem 187 4) + 1) - 1
def M_X11_word (mem : TMem) (p1 : Int32) (p2 : Int32) (p3 : Int32) (p4 : Int32) : TMem := if (F_X11_manyOf p1 p2 p3 p4) = (-1) then mem else if (mem 187 4) = 8 then mem else (mset (mset (mset (mset (mset (mset (mset (mset mem 191 ((2 * (mem 187 4)).toNatClampNeg) (F_X11_manyOf p1 p2 p3 p4)) 192 (Int32.toNatClampNeg (4 * (2 * (mem 187 4)))) p1) 192 (Int32.toNatClampNeg ((4 * (2 * (mem 187 4))) + 1)) p2) 192 (Int32.toNatClampNeg ((4 * (2 * (mem 187 4))) + 2)) p3) 192 (Int32.toNatClampNeg ((4 * (2 * (mem 187 4))) + 3)) p4) 187 11 0) 190 (Int32.toNatClampNeg (mem 187 4)) 1) 187 4 ((mem 187 4) + 1))
set_option maxRecDepth 100000 in
theorem C_X11_word (l : Launch) (mem : TMem) (p1 : Int32) (p2 : Int32) (p3 : Int32) (p4 : Int32) (hG : G_X11_word mem p1 p2 p3 p4) : TMi l i_X11_word 2 46 [.inr 187, .inl p1, .inl p2, .inl p3, .inl p4] mem (fun x m => x = F_X11_word mem p1 p2 p3 p4 ∧ m = M_X11_word mem p1 p2 p3 p4) := by
  refine tw_met (by decide) (Nat.le_of_ble_eq_true rfl) (fun κ hl hC hT => ?_)
  subst hl
  unfold G_X11_word at hG
  show WT κ 0 [some (.inr 187), some (.inl p1), some (.inl p2), some (.inl p3), some (.inl p4), none] [] mem
  refine tr_iload_n hC dX11_word_0 rfl rfl ?_
  refine tr_iload_n hC dX11_word_1 rfl rfl ?_
  refine tr_iload_n hC dX11_word_2 rfl rfl ?_
  refine tr_iload hC dX11_word_3 rfl ?_
  refine tr_xSi (As := [.inl p1, .inl p2, .inl p3, .inl p4]) (fr2 := 1) (lo2 := 22) hC dX11_word_5 mc_X11_100 mst_X11_manyOf ⟨Nat.le_of_ble_eq_true rfl, Nat.le_of_ble_eq_true rfl, Nat.le_of_ble_eq_true rfl⟩ rfl (C_X11_manyOf _ mem p1 p2 p3 p4) ?_
  refine tr_istore (loc2 := [some (.inr 187), some (.inl p1), some (.inl p2), some (.inl p3), some (.inl p4), some (.inl (F_X11_manyOf p1 p2 p3 p4))]) hC dX11_word_8 (by decide) rfl ?_
  refine tr_iload hC dX11_word_10 rfl ?_
  refine tr_iconst (v := (-1)) hC dX11_word_12 (by decide) ?_
  refine tr_icmp_ne hC dX11_word_13 (tgt := 19) rfl (fun c13 => ?_) (fun c13 => ?_)
  · have hG := hG c13
    refine tr_aload_n hC dX11_word_19 rfl rfl ?_
    refine tr_gi (v := mem 187 4) hC dX11_word_20 gf_X11_104 sh_187 rfl rfl ?_
    refine tr_bipush (v := 8) hC dX11_word_23 (by decide) ?_
    refine tr_icmp_ne hC dX11_word_25 (tgt := 31) rfl (fun c25 => ?_) (fun c25 => ?_)
    · have hG := hG c25
      refine tr_aload_n hC dX11_word_31 rfl rfl ?_
      refine tr_iconst (v := 2) hC dX11_word_32 (by decide) ?_
      refine tr_aload_n hC dX11_word_33 rfl rfl ?_
      refine tr_gi (v := mem 187 4) hC dX11_word_34 gf_X11_104 sh_187 rfl rfl ?_
      refine tr_imul hC dX11_word_37 ?_
      refine tr_iload hC dX11_word_38 rfl ?_
      refine tr_iload_n hC dX11_word_40 rfl rfl ?_
      refine tr_iload_n hC dX11_word_41 rfl rfl ?_
      refine tr_iload_n hC dX11_word_42 rfl rfl ?_
      refine tr_iload hC dX11_word_43 rfl ?_
      obtain ⟨g1, hG⟩ := hG
      refine tr_xVv (As := [.inl (2 * (mem 187 4)), .inl (F_X11_manyOf p1 p2 p3 p4), .inl p1, .inl p2, .inl p3, .inl p4]) (fr2 := 0) (lo2 := 0) hC dX11_word_45 mc_X11_107 mv_X11_layWay sh_187 rfl ⟨Nat.le_of_ble_eq_true rfl, Nat.le_of_ble_eq_true rfl, Nat.le_of_ble_eq_true rfl⟩ rfl (C_X11_layWay _ mem (2 * (mem 187 4)) (F_X11_manyOf p1 p2 p3 p4) p1 p2 p3 p4 g1) ?_
      refine tr_aload_n hC dX11_word_48 rfl rfl ?_
      refine tr_getr hC dX11_word_49 gf_X11_20 sh_187 rfl ?_
      refine tr_aload_n hC dX11_word_52 rfl rfl ?_
      refine tr_gi (v := mem 187 4) hC dX11_word_53 gf_X11_104 sh_187 rfl ((ms_sl (by decide)).trans ((ms_ne (by decide)).trans ((ms_ne (by decide)).trans ((ms_ne (by decide)).trans ((ms_ne (by decide)).trans (ms_ne (by decide))))))) ?_
      refine tr_iconst (v := 1) hC dX11_word_56 (by decide) ?_
      have g2 := hG
      refine tr_iast hC dX11_word_57 sh_190 g2 ?_
      refine tr_aload_n hC dX11_word_58 rfl rfl ?_
      refine tr_dup hC dX11_word_59 ?_
      refine tr_gi (v := mem 187 4) hC dX11_word_60 gf_X11_104 sh_187 rfl ((ms_ne (by decide)).trans ((ms_sl (by decide)).trans ((ms_ne (by decide)).trans ((ms_ne (by decide)).trans ((ms_ne (by decide)).trans ((ms_ne (by decide)).trans (ms_ne (by decide)))))))) ?_
      refine tr_iconst (v := 1) hC dX11_word_63 (by decide) ?_
      refine tr_iadd hC dX11_word_64 ?_
      refine tr_puti hC dX11_word_65 gp_X11_104 sh_187 rfl rfl rfl ?_
      refine tr_aload_n hC dX11_word_68 rfl rfl ?_
      refine tr_gi (v := (mem 187 4) + 1) hC dX11_word_69 gf_X11_104 sh_187 rfl (ms_eq) ?_
      refine tr_iconst (v := 1) hC dX11_word_72 (by decide) ?_
      refine tr_isub hC dX11_word_73 ?_
      exact tr_iret hC hT dX11_word_74 ⟨_, rfl, (by rw [F_X11_word, if_neg c13, if_neg c25]), (by rw [M_X11_word, if_neg c13, if_neg c25])⟩
    · refine tr_bipush (v := (-4)) hC dX11_word_28 (by decide) ?_
      exact tr_iret hC hT dX11_word_30 ⟨_, rfl, (by rw [F_X11_word, if_neg c13, if_pos c25]), (by rw [M_X11_word, if_neg c13, if_pos c25])⟩
  · refine tr_bipush (v := (-2)) hC dX11_word_16 (by decide) ?_
    exact tr_iret hC hT dX11_word_18 ⟨_, rfl, (by rw [F_X11_word, if_pos c13]), (by rw [M_X11_word, if_pos c13])⟩
set_option maxRecDepth 100000 in
theorem C_X10_isWord (l : Launch) (mem : TMem) (p1 : Int32) : TMi l i_X10_isWord 1 22 [.inr 0, .inl p1] mem (fun x m => x = F_X10_within p1 0 ((mem 10 4) - 1) ∧ m = mem) := by
  refine tw_met (by decide) (Nat.le_of_ble_eq_true rfl) (fun κ hl hC hT => ?_)
  subst hl
  show WT κ 0 [some (.inr 0), some (.inl p1)] [] mem
  refine tr_iload_n hC dX10_isWord_0 rfl rfl ?_
  refine tr_iconst (v := 0) hC dX10_isWord_1 (by decide) ?_
  refine tr_aload_n hC dX10_isWord_2 rfl rfl ?_
  refine tr_getr hC dX10_isWord_3 gf_X10_19 sh_0 rfl ?_
  refine tr_xVi (As := []) (fr2 := 0) (lo2 := 0) hC dX10_isWord_6 mc_X10_116 mv_X5_words sh_10 rfl ⟨Nat.le_of_ble_eq_true rfl, Nat.le_of_ble_eq_true rfl, Nat.le_of_ble_eq_true rfl⟩ rfl (C_X5_words _ mem ) ?_
  refine tr_iconst (v := 1) hC dX10_isWord_9 (by decide) ?_
  refine tr_isub hC dX10_isWord_10 ?_
  refine tr_xSi (As := [.inl p1, .inl 0, .inl ((mem 10 4) - 1)]) (fr2 := 0) (lo2 := 0) hC dX10_isWord_11 mc_X10_94 mst_X10_within ⟨Nat.le_of_ble_eq_true rfl, Nat.le_of_ble_eq_true rfl, Nat.le_of_ble_eq_true rfl⟩ rfl (C_X10_within _ mem p1 0 ((mem 10 4) - 1)) ?_
  exact tr_zret hC hT dX10_isWord_14 (nar_b (B_X10_within p1 0 ((mem 10 4) - 1))) ⟨_, rfl, rfl, rfl⟩
def G_X5_waysOf (p1 : Int32) : Prop := vp_in p1 8
set_option maxRecDepth 100000 in
theorem C_X5_waysOf (l : Launch) (mem : TMem) (p1 : Int32) (hG : G_X5_waysOf p1) : TMi l i_X5_waysOf 0 0 [.inr 10, .inl p1] mem (fun x m => x = mem 29 p1.toNatClampNeg ∧ m = mem) := by
  refine tw_met (by decide) (Nat.le_of_ble_eq_true rfl) (fun κ hl hC hT => ?_)
  subst hl
  unfold G_X5_waysOf at hG
  show WT κ 0 [some (.inr 10), some (.inl p1)] [] mem
  refine tr_aload_n hC dX5_waysOf_0 rfl rfl ?_
  refine tr_getr hC dX5_waysOf_1 gf_X5_20 sh_10 rfl ?_
  refine tr_iload_n hC dX5_waysOf_4 rfl rfl ?_
  have g1 := hG
  refine tr_al (v := mem 29 p1.toNatClampNeg) hC dX5_waysOf_5 sh_29 g1 rfl ?_
  exact tr_iret hC hT dX5_waysOf_6 ⟨_, rfl, rfl, rfl⟩
def G_X10_way (mem : TMem) (p1 : Int32) (p2 : Int32) (p3 : Int32) (p4 : Int32) (p5 : Int32) : Prop := (¬ ((F_X10_within p1 0 ((mem 10 4) - 1)) = 0) → ((¬ ((F_X10_areSounds p2 p3 p4 p5) = 0) → (G_X5_waysOf p1 ∧ (((mem 29 p1.toNatClampNeg) < 2 → G_X5_addWay (mset (mset mem 40 6 0) 108 5 0) p1 p2 p3 p4 p5))))))
def F_X10_way (mem : TMem) (p1 : Int32) (p2 : Int32) (p3 : Int32) (p4 : Int32) (p5 : Int32) : Int32 := if (F_X10_within p1 0 ((mem 10 4) - 1)) = 0 then (-2) else if (F_X10_areSounds p2 p3 p4 p5) = 0 then (-2) else if (mem 29 p1.toNatClampNeg) < 2 then 1 else (-4)
def M_X10_way (mem : TMem) (p1 : Int32) (p2 : Int32) (p3 : Int32) (p4 : Int32) (p5 : Int32) : TMem := if (F_X10_within p1 0 ((mem 10 4) - 1)) = 0 then mem else if (F_X10_areSounds p2 p3 p4 p5) = 0 then mem else if (mem 29 p1.toNatClampNeg) < 2 then (M_X5_addWay (mset (mset mem 40 6 0) 108 5 0) p1 p2 p3 p4 p5) else mem
set_option maxRecDepth 100000 in
theorem C_X10_way (l : Launch) (mem : TMem) (p1 : Int32) (p2 : Int32) (p3 : Int32) (p4 : Int32) (p5 : Int32) (hG : G_X10_way mem p1 p2 p3 p4 p5) : TMi l i_X10_way 4 86 [.inr 0, .inl p1, .inl p2, .inl p3, .inl p4, .inl p5] mem (fun x m => x = F_X10_way mem p1 p2 p3 p4 p5 ∧ m = M_X10_way mem p1 p2 p3 p4 p5) := by
  refine tw_met (by decide) (Nat.le_of_ble_eq_true rfl) (fun κ hl hC hT => ?_)
  subst hl
  unfold G_X10_way at hG
  show WT κ 0 [some (.inr 0), some (.inl p1), some (.inl p2), some (.inl p3), some (.inl p4), some (.inl p5)] [] mem
  refine tr_aload_n hC dX10_way_0 rfl rfl ?_
  refine tr_iload_n hC dX10_way_1 rfl rfl ?_
  refine tr_xVi (As := [.inl p1]) (fr2 := 1) (lo2 := 22) hC dX10_way_2 mc_X10_126 mv_X10_isWord sh_0 rfl ⟨Nat.le_of_ble_eq_true rfl, Nat.le_of_ble_eq_true rfl, Nat.le_of_ble_eq_true rfl⟩ rfl (C_X10_isWord _ mem p1) ?_
  refine tr_if_eq hC dX10_way_5 (tgt := 20) rfl (fun c5 => ?_) (fun c5 => ?_)
  · refine tr_bipush (v := (-2)) hC dX10_way_20 (by decide) ?_
    exact tr_iret hC hT dX10_way_22 ⟨_, rfl, (by rw [F_X10_way, if_pos c5]), (by rw [M_X10_way, if_pos c5])⟩
  · have hG := hG c5
    refine tr_iload_n hC dX10_way_8 rfl rfl ?_
    refine tr_iload_n hC dX10_way_9 rfl rfl ?_
    refine tr_iload hC dX10_way_10 rfl ?_
    refine tr_iload hC dX10_way_12 rfl ?_
    refine tr_xSi (As := [.inl p2, .inl p3, .inl p4, .inl p5]) (fr2 := 3) (lo2 := 63) hC dX10_way_14 mc_X10_112 mst_X10_areSounds ⟨Nat.le_of_ble_eq_true rfl, Nat.le_of_ble_eq_true rfl, Nat.le_of_ble_eq_true rfl⟩ rfl (C_X10_areSounds _ mem p2 p3 p4 p5) ?_
    refine tr_if_ne hC dX10_way_17 (tgt := 23) rfl (fun c17 => ?_) (fun c17 => ?_)
    · have hG := hG c17
      refine tr_aload_n hC dX10_way_23 rfl rfl ?_
      refine tr_getr hC dX10_way_24 gf_X10_19 sh_0 rfl ?_
      refine tr_iload_n hC dX10_way_27 rfl rfl ?_
      obtain ⟨g1, hG⟩ := hG
      refine tr_xVi (As := [.inl p1]) (fr2 := 0) (lo2 := 0) hC dX10_way_28 mc_X10_129 mv_X5_waysOf sh_10 rfl ⟨Nat.le_of_ble_eq_true rfl, Nat.le_of_ble_eq_true rfl, Nat.le_of_ble_eq_true rfl⟩ rfl (C_X5_waysOf _ mem p1 g1) ?_
      refine tr_iconst (v := 2) hC dX10_way_31 (by decide) ?_
      refine tr_icmp_lt hC dX10_way_32 (tgt := 38) rfl (fun c32 => ?_) (fun c32 => ?_)
      · have hG := hG c32
        refine tr_aload_n hC dX10_way_38 rfl rfl ?_
        refine tr_xVv (As := []) (fr2 := 1) (lo2 := 20) hC dX10_way_39 mc_X10_82 mv_X10_endWhatLeansOnThis sh_0 rfl ⟨Nat.le_of_ble_eq_true rfl, Nat.le_of_ble_eq_true rfl, Nat.le_of_ble_eq_true rfl⟩ rfl (C_X10_endWhatLeansOnThis _ mem ) ?_
        refine tr_aload_n hC dX10_way_42 rfl rfl ?_
        refine tr_getr hC dX10_way_43 gf_X10_19 sh_0 rfl ?_
        refine tr_iload_n hC dX10_way_46 rfl rfl ?_
        refine tr_iload_n hC dX10_way_47 rfl rfl ?_
        refine tr_iload_n hC dX10_way_48 rfl rfl ?_
        refine tr_iload hC dX10_way_49 rfl ?_
        refine tr_iload hC dX10_way_51 rfl ?_
        have g2 := hG
        refine tr_xVv (As := [.inl p1, .inl p2, .inl p3, .inl p4, .inl p5]) (fr2 := 1) (lo2 := 22) hC dX10_way_53 mc_X10_122 mv_X5_addWay sh_10 rfl ⟨Nat.le_of_ble_eq_true rfl, Nat.le_of_ble_eq_true rfl, Nat.le_of_ble_eq_true rfl⟩ rfl (C_X5_addWay _ (mset (mset mem 40 6 0) 108 5 0) p1 p2 p3 p4 p5 g2) ?_
        refine tr_iconst (v := 1) hC dX10_way_56 (by decide) ?_
        exact tr_iret hC hT dX10_way_57 ⟨_, rfl, (by rw [F_X10_way, if_neg c5, if_neg c17, if_pos c32]), (by rw [M_X10_way, if_neg c5, if_neg c17, if_pos c32])⟩
      · refine tr_bipush (v := (-4)) hC dX10_way_35 (by decide) ?_
        exact tr_iret hC hT dX10_way_37 ⟨_, rfl, (by rw [F_X10_way, if_neg c5, if_neg c17, if_neg c32]), (by rw [M_X10_way, if_neg c5, if_neg c17, if_neg c32])⟩
    · refine tr_bipush (v := (-2)) hC dX10_way_20 (by decide) ?_
      exact tr_iret hC hT dX10_way_22 ⟨_, rfl, (by rw [F_X10_way, if_neg c5, if_pos c17]), (by rw [M_X10_way, if_neg c5, if_pos c17])⟩
set_option maxRecDepth 100000 in
theorem C_X11_isWord (l : Launch) (mem : TMem) (p1 : Int32) : TMi l i_X11_isWord 1 22 [.inr 187, .inl p1] mem (fun x m => x = F_X11_in p1 0 ((mem 187 4) - 1) ∧ m = mem) := by
  refine tw_met (by decide) (Nat.le_of_ble_eq_true rfl) (fun κ hl hC hT => ?_)
  subst hl
  show WT κ 0 [some (.inr 187), some (.inl p1)] [] mem
  refine tr_iload_n hC dX11_isWord_0 rfl rfl ?_
  refine tr_iconst (v := 0) hC dX11_isWord_1 (by decide) ?_
  refine tr_aload_n hC dX11_isWord_2 rfl rfl ?_
  refine tr_gi (v := mem 187 4) hC dX11_isWord_3 gf_X11_104 sh_187 rfl rfl ?_
  refine tr_iconst (v := 1) hC dX11_isWord_6 (by decide) ?_
  refine tr_isub hC dX11_isWord_7 ?_
  refine tr_xSi (As := [.inl p1, .inl 0, .inl ((mem 187 4) - 1)]) (fr2 := 0) (lo2 := 0) hC dX11_isWord_8 mc_X11_89 mst_X11_in ⟨Nat.le_of_ble_eq_true rfl, Nat.le_of_ble_eq_true rfl, Nat.le_of_ble_eq_true rfl⟩ rfl (C_X11_in _ mem p1 0 ((mem 187 4) - 1)) ?_
  exact tr_zret hC hT dX11_isWord_11 (nar_b (B_X11_in p1 0 ((mem 187 4) - 1))) ⟨_, rfl, rfl, rfl⟩
def G_X11_way (mem : TMem) (p1 : Int32) (p2 : Int32) (p3 : Int32) (p4 : Int32) (p5 : Int32) : Prop := (¬ ((F_X11_in p1 0 ((mem 187 4) - 1)) = 0) → ((¬ ((F_X11_manyOf p2 p3 p4 p5) = (-1)) → (vp_in p1 8 ∧ ((¬ ((mem 190 p1.toNatClampNeg) = 2) → (G_X11_layWay ((2 * p1) + 1) (F_X11_manyOf p2 p3 p4 p5) p2 p3 p4 p5)))))))
def F_X11_way (mem : TMem) (p1 : Int32) (p2 : Int32) (p3 : Int32) (p4 : Int32) (p5 : Int32) : Int32 := if (F_X11_in p1 0 ((mem 187 4) - 1)) = 0 then (-2) else if (F_X11_manyOf p2 p3 p4 p5) = (-1) then (-2) else if (mem 190 p1.toNatClampNeg) = 2 then (-4) else 1
def M_X11_way (mem : TMem) (p1 : Int32) (p2 : Int32) (p3 : Int32) (p4 : Int32) (p5 : Int32) : TMem := if (F_X11_in p1 0 ((mem 187 4) - 1)) = 0 then mem else if (F_X11_manyOf p2 p3 p4 p5) = (-1) then mem else if (mem 190 p1.toNatClampNeg) = 2 then mem else (mset (mset (mset (mset (mset (mset (mset mem 191 (((2 * p1) + 1).toNatClampNeg) (F_X11_manyOf p2 p3 p4 p5)) 192 (Int32.toNatClampNeg (4 * ((2 * p1) + 1))) p2) 192 (Int32.toNatClampNeg ((4 * ((2 * p1) + 1)) + 1)) p3) 192 (Int32.toNatClampNeg ((4 * ((2 * p1) + 1)) + 2)) p4) 192 (Int32.toNatClampNeg ((4 * ((2 * p1) + 1)) + 3)) p5) 187 11 0) 190 p1.toNatClampNeg 2)
set_option maxRecDepth 100000 in
theorem C_X11_way (l : Launch) (mem : TMem) (p1 : Int32) (p2 : Int32) (p3 : Int32) (p4 : Int32) (p5 : Int32) (hG : G_X11_way mem p1 p2 p3 p4 p5) : TMi l i_X11_way 2 46 [.inr 187, .inl p1, .inl p2, .inl p3, .inl p4, .inl p5] mem (fun x m => x = F_X11_way mem p1 p2 p3 p4 p5 ∧ m = M_X11_way mem p1 p2 p3 p4 p5) := by
  refine tw_met (by decide) (Nat.le_of_ble_eq_true rfl) (fun κ hl hC hT => ?_)
  subst hl
  unfold G_X11_way at hG
  show WT κ 0 [some (.inr 187), some (.inl p1), some (.inl p2), some (.inl p3), some (.inl p4), some (.inl p5), none] [] mem
  refine tr_iload_n hC dX11_way_0 rfl rfl ?_
  refine tr_iload_n hC dX11_way_1 rfl rfl ?_
  refine tr_iload hC dX11_way_2 rfl ?_
  refine tr_iload hC dX11_way_4 rfl ?_
  refine tr_xSi (As := [.inl p2, .inl p3, .inl p4, .inl p5]) (fr2 := 1) (lo2 := 22) hC dX11_way_6 mc_X11_100 mst_X11_manyOf ⟨Nat.le_of_ble_eq_true rfl, Nat.le_of_ble_eq_true rfl, Nat.le_of_ble_eq_true rfl⟩ rfl (C_X11_manyOf _ mem p2 p3 p4 p5) ?_
  refine tr_istore (loc2 := [some (.inr 187), some (.inl p1), some (.inl p2), some (.inl p3), some (.inl p4), some (.inl p5), some (.inl (F_X11_manyOf p2 p3 p4 p5))]) hC dX11_way_9 (by decide) rfl ?_
  refine tr_aload_n hC dX11_way_11 rfl rfl ?_
  refine tr_iload_n hC dX11_way_12 rfl rfl ?_
  refine tr_xVi (As := [.inl p1]) (fr2 := 1) (lo2 := 22) hC dX11_way_13 mc_X11_111 mv_X11_isWord sh_187 rfl ⟨Nat.le_of_ble_eq_true rfl, Nat.le_of_ble_eq_true rfl, Nat.le_of_ble_eq_true rfl⟩ rfl (C_X11_isWord _ mem p1) ?_
  refine tr_if_eq hC dX11_way_16 (tgt := 25) rfl (fun c16 => ?_) (fun c16 => ?_)
  · refine tr_bipush (v := (-2)) hC dX11_way_25 (by decide) ?_
    exact tr_iret hC hT dX11_way_27 ⟨_, rfl, (by rw [F_X11_way, if_pos c16]), (by rw [M_X11_way, if_pos c16])⟩
  · have hG := hG c16
    refine tr_iload hC dX11_way_19 rfl ?_
    refine tr_iconst (v := (-1)) hC dX11_way_21 (by decide) ?_
    refine tr_icmp_ne hC dX11_way_22 (tgt := 28) rfl (fun c22 => ?_) (fun c22 => ?_)
    · have hG := hG c22
      refine tr_aload_n hC dX11_way_28 rfl rfl ?_
      refine tr_getr hC dX11_way_29 gf_X11_20 sh_187 rfl ?_
      refine tr_iload_n hC dX11_way_32 rfl rfl ?_
      obtain ⟨g1, hG⟩ := hG
      refine tr_al (v := mem 190 p1.toNatClampNeg) hC dX11_way_33 sh_190 g1 rfl ?_
      refine tr_iconst (v := 2) hC dX11_way_34 (by decide) ?_
      refine tr_icmp_ne hC dX11_way_35 (tgt := 41) rfl (fun c35 => ?_) (fun c35 => ?_)
      · have hG := hG c35
        refine tr_aload_n hC dX11_way_41 rfl rfl ?_
        refine tr_iconst (v := 2) hC dX11_way_42 (by decide) ?_
        refine tr_iload_n hC dX11_way_43 rfl rfl ?_
        refine tr_imul hC dX11_way_44 ?_
        refine tr_iconst (v := 1) hC dX11_way_45 (by decide) ?_
        refine tr_iadd hC dX11_way_46 ?_
        refine tr_iload hC dX11_way_47 rfl ?_
        refine tr_iload_n hC dX11_way_49 rfl rfl ?_
        refine tr_iload_n hC dX11_way_50 rfl rfl ?_
        refine tr_iload hC dX11_way_51 rfl ?_
        refine tr_iload hC dX11_way_53 rfl ?_
        have g2 := hG
        refine tr_xVv (As := [.inl ((2 * p1) + 1), .inl (F_X11_manyOf p2 p3 p4 p5), .inl p2, .inl p3, .inl p4, .inl p5]) (fr2 := 0) (lo2 := 0) hC dX11_way_55 mc_X11_107 mv_X11_layWay sh_187 rfl ⟨Nat.le_of_ble_eq_true rfl, Nat.le_of_ble_eq_true rfl, Nat.le_of_ble_eq_true rfl⟩ rfl (C_X11_layWay _ mem ((2 * p1) + 1) (F_X11_manyOf p2 p3 p4 p5) p2 p3 p4 p5 g2) ?_
        refine tr_aload_n hC dX11_way_58 rfl rfl ?_
        refine tr_getr hC dX11_way_59 gf_X11_20 sh_187 rfl ?_
        refine tr_iload_n hC dX11_way_62 rfl rfl ?_
        refine tr_iconst (v := 2) hC dX11_way_63 (by decide) ?_
        refine tr_iast hC dX11_way_64 sh_190 g1 ?_
        refine tr_iconst (v := 1) hC dX11_way_65 (by decide) ?_
        exact tr_iret hC hT dX11_way_66 ⟨_, rfl, (by rw [F_X11_way, if_neg c16, if_neg c22, if_neg c35]), (by rw [M_X11_way, if_neg c16, if_neg c22, if_neg c35])⟩
      · refine tr_bipush (v := (-4)) hC dX11_way_38 (by decide) ?_
        exact tr_iret hC hT dX11_way_40 ⟨_, rfl, (by rw [F_X11_way, if_neg c16, if_neg c22, if_pos c35]), (by rw [M_X11_way, if_neg c16, if_neg c22, if_pos c35])⟩
    · refine tr_bipush (v := (-2)) hC dX11_way_25 (by decide) ?_
      exact tr_iret hC hT dX11_way_27 ⟨_, rfl, (by rw [F_X11_way, if_neg c16, if_pos c22]), (by rw [M_X11_way, if_neg c16, if_pos c22])⟩
def F_X10_isWordOrEdge (mem : TMem) (p1 : Int32) : Int32 := if p1 = (-1) then 1 else if (F_X10_within p1 0 ((mem 10 4) - 1)) = 0 then 0 else 1
theorem B_X10_isWordOrEdge (mem : TMem) (p1 : Int32) : F_X10_isWordOrEdge mem p1 = 0 ∨ F_X10_isWordOrEdge mem p1 = 1 := by
  unfold F_X10_isWordOrEdge
  repeat (first | (split) | (exact Or.inl rfl) | (exact Or.inr rfl))
set_option maxRecDepth 100000 in
theorem C_X10_isWordOrEdge (l : Launch) (mem : TMem) (p1 : Int32) : TMi l i_X10_isWordOrEdge 2 43 [.inr 0, .inl p1] mem (fun x m => x = F_X10_isWordOrEdge mem p1 ∧ m = mem) := by
  refine tw_met (by decide) (Nat.le_of_ble_eq_true rfl) (fun κ hl hC hT => ?_)
  subst hl
  show WT κ 0 [some (.inr 0), some (.inl p1)] [] mem
  refine tr_iload_n hC dX10_isWordOrEdge_0 rfl rfl ?_
  refine tr_iconst (v := (-1)) hC dX10_isWordOrEdge_1 (by decide) ?_
  refine tr_icmp_eq hC dX10_isWordOrEdge_2 (tgt := 13) rfl (fun c2 => ?_) (fun c2 => ?_)
  · refine tr_iconst (v := 1) hC dX10_isWordOrEdge_13 (by decide) ?_
    refine tr_goto hC dX10_isWordOrEdge_14 (tgt := 18) rfl ?_
    exact tr_zret hC hT dX10_isWordOrEdge_18 (nar_b (by decide)) ⟨_, rfl, (by rw [F_X10_isWordOrEdge, if_pos c2]), rfl⟩
  · refine tr_aload_n hC dX10_isWordOrEdge_5 rfl rfl ?_
    refine tr_iload_n hC dX10_isWordOrEdge_6 rfl rfl ?_
    refine tr_xVi (As := [.inl p1]) (fr2 := 1) (lo2 := 22) hC dX10_isWordOrEdge_7 mc_X10_126 mv_X10_isWord sh_0 rfl ⟨Nat.le_of_ble_eq_true rfl, Nat.le_of_ble_eq_true rfl, Nat.le_of_ble_eq_true rfl⟩ rfl (C_X10_isWord _ mem p1) ?_
    refine tr_if_eq hC dX10_isWordOrEdge_10 (tgt := 17) rfl (fun c10 => ?_) (fun c10 => ?_)
    · refine tr_iconst (v := 0) hC dX10_isWordOrEdge_17 (by decide) ?_
      exact tr_zret hC hT dX10_isWordOrEdge_18 (nar_b (by decide)) ⟨_, rfl, (by rw [F_X10_isWordOrEdge, if_neg c2, if_pos c10]), rfl⟩
    · refine tr_iconst (v := 1) hC dX10_isWordOrEdge_13 (by decide) ?_
      refine tr_goto hC dX10_isWordOrEdge_14 (tgt := 18) rfl ?_
      exact tr_zret hC hT dX10_isWordOrEdge_18 (nar_b (by decide)) ⟨_, rfl, (by rw [F_X10_isWordOrEdge, if_neg c2, if_neg c10]), rfl⟩
def G_X5_grammarOf (p1 : Int32) (p2 : Int32) : Prop := (vp_in (p1 + 1) 9) ∧ (vp_in (p2 + 1) 9)
set_option maxRecDepth 100000 in
theorem C_X5_grammarOf (l : Launch) (mem : TMem) (p1 : Int32) (p2 : Int32) (hG : G_X5_grammarOf p1 p2) : TMi l i_X5_grammarOf 0 0 [.inr 10, .inl p1, .inl p2] mem (fun x m => x = mem (31 + (Int32.toNatClampNeg (p1 + 1))) (Int32.toNatClampNeg (p2 + 1)) ∧ m = mem) := by
  refine tw_met (by decide) (Nat.le_of_ble_eq_true rfl) (fun κ hl hC hT => ?_)
  subst hl
  unfold G_X5_grammarOf at hG
  show WT κ 0 [some (.inr 10), some (.inl p1), some (.inl p2)] [] mem
  refine tr_aload_n hC dX5_grammarOf_0 rfl rfl ?_
  refine tr_getr hC dX5_grammarOf_1 gf_X5_23 sh_10 rfl ?_
  refine tr_iload_n hC dX5_grammarOf_4 rfl rfl ?_
  refine tr_iconst (v := 1) hC dX5_grammarOf_5 (by decide) ?_
  refine tr_iadd hC dX5_grammarOf_6 ?_
  obtain ⟨g1, hG⟩ := hG
  refine tr_aald hC dX5_grammarOf_7 sh_30 g1 ?_
  refine tr_iload_n hC dX5_grammarOf_8 rfl rfl ?_
  refine tr_iconst (v := 1) hC dX5_grammarOf_9 (by decide) ?_
  refine tr_iadd hC dX5_grammarOf_10 ?_
  have g2 := hG
  refine tr_al (v := mem (31 + (Int32.toNatClampNeg (p1 + 1))) (Int32.toNatClampNeg (p2 + 1))) hC dX5_grammarOf_11 (shr_30 _ (vp_lt g1)) g2 rfl ?_
  exact tr_iret hC hT dX5_grammarOf_12 ⟨_, rfl, rfl, rfl⟩
def G_X5_setGrammar (p1 : Int32) (p2 : Int32) (p3 : Int32) : Prop := (vp_in (p1 + 1) 9) ∧ (vp_in (p2 + 1) 9)
set_option maxRecDepth 100000 in
theorem C_X5_setGrammar (l : Launch) (mem : TMem) (p1 : Int32) (p2 : Int32) (p3 : Int32) (hG : G_X5_setGrammar p1 p2 p3) : TMv l i_X5_setGrammar 0 0 [.inr 10, .inl p1, .inl p2, .inl p3] mem (fun m => m = (mset mem (31 + (Int32.toNatClampNeg (p1 + 1))) (Int32.toNatClampNeg (p2 + 1)) p3)) := by
  refine tw_met (by decide) (Nat.le_of_ble_eq_true rfl) (fun κ hl hC hT => ?_)
  subst hl
  unfold G_X5_setGrammar at hG
  show WT κ 0 [some (.inr 10), some (.inl p1), some (.inl p2), some (.inl p3)] [] mem
  refine tr_aload_n hC dX5_setGrammar_0 rfl rfl ?_
  refine tr_getr hC dX5_setGrammar_1 gf_X5_23 sh_10 rfl ?_
  refine tr_iload_n hC dX5_setGrammar_4 rfl rfl ?_
  refine tr_iconst (v := 1) hC dX5_setGrammar_5 (by decide) ?_
  refine tr_iadd hC dX5_setGrammar_6 ?_
  obtain ⟨g1, hG⟩ := hG
  refine tr_aald hC dX5_setGrammar_7 sh_30 g1 ?_
  refine tr_iload_n hC dX5_setGrammar_8 rfl rfl ?_
  refine tr_iconst (v := 1) hC dX5_setGrammar_9 (by decide) ?_
  refine tr_iadd hC dX5_setGrammar_10 ?_
  refine tr_iload_n hC dX5_setGrammar_11 rfl rfl ?_
  have g2 := hG
  refine tr_iast hC dX5_setGrammar_12 (shr_30 _ (vp_lt g1)) g2 ?_
  exact tr_vret hC hT dX5_setGrammar_13 ⟨rfl, rfl⟩
def G_X10_grammar (mem : TMem) (p1 : Int32) (p2 : Int32) (p3 : Int32) : Prop := (¬ ((F_X10_isWordOrEdge mem p1) = 0) → ((¬ ((F_X10_isWordOrEdge mem p2) = 0) → ((p1 = (-1) → ((¬ (p2 = (-1)) → ((p3 = (-1) → (G_X5_grammarOf p1 p2 ∧ G_X5_setGrammar p1 p2 p3)) ∧ (¬ (p3 = (-1)) → ((¬ ((F_X10_within p3 0 100) = 0) → (G_X5_grammarOf p1 p2 ∧ G_X5_setGrammar p1 p2 p3)))))))) ∧ (¬ (p1 = (-1)) → ((p3 = (-1) → (G_X5_grammarOf p1 p2 ∧ G_X5_setGrammar p1 p2 p3)) ∧ (¬ (p3 = (-1)) → ((¬ ((F_X10_within p3 0 100) = 0) → (G_X5_grammarOf p1 p2 ∧ G_X5_setGrammar p1 p2 p3))))))))))
def F_X10_grammar (mem : TMem) (p1 : Int32) (p2 : Int32) (p3 : Int32) : Int32 := if (F_X10_isWordOrEdge mem p1) = 0 then (-2) else if (F_X10_isWordOrEdge mem p2) = 0 then (-2) else if p1 = (-1) then if p2 = (-1) then (-2) else if p3 = (-1) then mem (31 + (Int32.toNatClampNeg (p1 + 1))) (Int32.toNatClampNeg (p2 + 1)) else if (F_X10_within p3 0 100) = 0 then (-2) else mem (31 + (Int32.toNatClampNeg (p1 + 1))) (Int32.toNatClampNeg (p2 + 1)) else if p3 = (-1) then mem (31 + (Int32.toNatClampNeg (p1 + 1))) (Int32.toNatClampNeg (p2 + 1)) else if (F_X10_within p3 0 100) = 0 then (-2) else mem (31 + (Int32.toNatClampNeg (p1 + 1))) (Int32.toNatClampNeg (p2 + 1))
def M_X10_grammar (mem : TMem) (p1 : Int32) (p2 : Int32) (p3 : Int32) : TMem := if (F_X10_isWordOrEdge mem p1) = 0 then mem else if (F_X10_isWordOrEdge mem p2) = 0 then mem else if p1 = (-1) then if p2 = (-1) then mem else if p3 = (-1) then (mset (mset (mset mem 40 6 0) 108 5 0) (31 + (Int32.toNatClampNeg (p1 + 1))) (Int32.toNatClampNeg (p2 + 1)) p3) else if (F_X10_within p3 0 100) = 0 then mem else (mset (mset (mset mem 40 6 0) 108 5 0) (31 + (Int32.toNatClampNeg (p1 + 1))) (Int32.toNatClampNeg (p2 + 1)) p3) else if p3 = (-1) then (mset (mset (mset mem 40 6 0) 108 5 0) (31 + (Int32.toNatClampNeg (p1 + 1))) (Int32.toNatClampNeg (p2 + 1)) p3) else if (F_X10_within p3 0 100) = 0 then mem else (mset (mset (mset mem 40 6 0) 108 5 0) (31 + (Int32.toNatClampNeg (p1 + 1))) (Int32.toNatClampNeg (p2 + 1)) p3)
set_option maxRecDepth 100000 in
theorem C_X10_grammar (l : Launch) (mem : TMem) (p1 : Int32) (p2 : Int32) (p3 : Int32) (hG : G_X10_grammar mem p1 p2 p3) : TMi l i_X10_grammar 3 64 [.inr 0, .inl p1, .inl p2, .inl p3] mem (fun x m => x = F_X10_grammar mem p1 p2 p3 ∧ m = M_X10_grammar mem p1 p2 p3) := by
  refine tw_met (by decide) (Nat.le_of_ble_eq_true rfl) (fun κ hl hC hT => ?_)
  subst hl
  unfold G_X10_grammar at hG
  show WT κ 0 [some (.inr 0), some (.inl p1), some (.inl p2), some (.inl p3), none] [] mem
  refine tr_aload_n hC dX10_grammar_0 rfl rfl ?_
  refine tr_iload_n hC dX10_grammar_1 rfl rfl ?_
  refine tr_xVi (As := [.inl p1]) (fr2 := 2) (lo2 := 43) hC dX10_grammar_2 mc_X10_133 mv_X10_isWordOrEdge sh_0 rfl ⟨Nat.le_of_ble_eq_true rfl, Nat.le_of_ble_eq_true rfl, Nat.le_of_ble_eq_true rfl⟩ rfl (C_X10_isWordOrEdge _ mem p1) ?_
  refine tr_if_eq hC dX10_grammar_5 (tgt := 26) rfl (fun c5 => ?_) (fun c5 => ?_)
  · refine tr_bipush (v := (-2)) hC dX10_grammar_26 (by decide) ?_
    exact tr_iret hC hT dX10_grammar_28 ⟨_, rfl, (by rw [F_X10_grammar, if_pos c5]), (by rw [M_X10_grammar, if_pos c5])⟩
  · have hG := hG c5
    refine tr_aload_n hC dX10_grammar_8 rfl rfl ?_
    refine tr_iload_n hC dX10_grammar_9 rfl rfl ?_
    refine tr_xVi (As := [.inl p2]) (fr2 := 2) (lo2 := 43) hC dX10_grammar_10 mc_X10_133 mv_X10_isWordOrEdge sh_0 rfl ⟨Nat.le_of_ble_eq_true rfl, Nat.le_of_ble_eq_true rfl, Nat.le_of_ble_eq_true rfl⟩ rfl (C_X10_isWordOrEdge _ mem p2) ?_
    refine tr_if_eq hC dX10_grammar_13 (tgt := 26) rfl (fun c13 => ?_) (fun c13 => ?_)
    · refine tr_bipush (v := (-2)) hC dX10_grammar_26 (by decide) ?_
      exact tr_iret hC hT dX10_grammar_28 ⟨_, rfl, (by rw [F_X10_grammar, if_neg c5, if_pos c13]), (by rw [M_X10_grammar, if_neg c5, if_pos c13])⟩
    · have hG := hG c13
      refine tr_iload_n hC dX10_grammar_16 rfl rfl ?_
      refine tr_iconst (v := (-1)) hC dX10_grammar_17 (by decide) ?_
      refine tr_icmp_ne hC dX10_grammar_18 (tgt := 29) rfl (fun c18 => ?_) (fun c18 => ?_)
      · have hG := hG.2 c18
        refine tr_iload_n hC dX10_grammar_29 rfl rfl ?_
        refine tr_iconst (v := (-1)) hC dX10_grammar_30 (by decide) ?_
        refine tr_icmp_eq hC dX10_grammar_31 (tgt := 47) rfl (fun c31 => ?_) (fun c31 => ?_)
        · have hG := hG.1 c31
          refine tr_aload_n hC dX10_grammar_47 rfl rfl ?_
          refine tr_getr hC dX10_grammar_48 gf_X10_19 sh_0 rfl ?_
          refine tr_iload_n hC dX10_grammar_51 rfl rfl ?_
          refine tr_iload_n hC dX10_grammar_52 rfl rfl ?_
          obtain ⟨g1, hG⟩ := hG
          refine tr_xVi (As := [.inl p1, .inl p2]) (fr2 := 0) (lo2 := 0) hC dX10_grammar_53 mc_X10_136 mv_X5_grammarOf sh_10 rfl ⟨Nat.le_of_ble_eq_true rfl, Nat.le_of_ble_eq_true rfl, Nat.le_of_ble_eq_true rfl⟩ rfl (C_X5_grammarOf _ mem p1 p2 g1) ?_
          refine tr_istore (loc2 := [some (.inr 0), some (.inl p1), some (.inl p2), some (.inl p3), some (.inl (mem (31 + (Int32.toNatClampNeg (p1 + 1))) (Int32.toNatClampNeg (p2 + 1))))]) hC dX10_grammar_56 (by decide) rfl ?_
          refine tr_aload_n hC dX10_grammar_58 rfl rfl ?_
          refine tr_xVv (As := []) (fr2 := 1) (lo2 := 20) hC dX10_grammar_59 mc_X10_82 mv_X10_endWhatLeansOnThis sh_0 rfl ⟨Nat.le_of_ble_eq_true rfl, Nat.le_of_ble_eq_true rfl, Nat.le_of_ble_eq_true rfl⟩ rfl (C_X10_endWhatLeansOnThis _ mem ) ?_
          refine tr_aload_n hC dX10_grammar_62 rfl rfl ?_
          refine tr_getr hC dX10_grammar_63 gf_X10_19 sh_0 rfl ?_
          refine tr_iload_n hC dX10_grammar_66 rfl rfl ?_
          refine tr_iload_n hC dX10_grammar_67 rfl rfl ?_
          refine tr_iload_n hC dX10_grammar_68 rfl rfl ?_
          have g2 := hG
          refine tr_xVv (As := [.inl p1, .inl p2, .inl p3]) (fr2 := 0) (lo2 := 0) hC dX10_grammar_69 mc_X10_139 mv_X5_setGrammar sh_10 rfl ⟨Nat.le_of_ble_eq_true rfl, Nat.le_of_ble_eq_true rfl, Nat.le_of_ble_eq_true rfl⟩ rfl (C_X5_setGrammar _ (mset (mset mem 40 6 0) 108 5 0) p1 p2 p3 g2) ?_
          refine tr_iload hC dX10_grammar_72 rfl ?_
          exact tr_iret hC hT dX10_grammar_74 ⟨_, rfl, (by rw [F_X10_grammar, if_neg c5, if_neg c13, if_neg c18, if_pos c31]), (by rw [M_X10_grammar, if_neg c5, if_neg c13, if_neg c18, if_pos c31])⟩
        · have hG := hG.2 c31
          refine tr_iload_n hC dX10_grammar_34 rfl rfl ?_
          refine tr_iconst (v := 0) hC dX10_grammar_35 (by decide) ?_
          refine tr_bipush (v := 100) hC dX10_grammar_36 (by decide) ?_
          refine tr_xSi (As := [.inl p3, .inl 0, .inl 100]) (fr2 := 0) (lo2 := 0) hC dX10_grammar_38 mc_X10_94 mst_X10_within ⟨Nat.le_of_ble_eq_true rfl, Nat.le_of_ble_eq_true rfl, Nat.le_of_ble_eq_true rfl⟩ rfl (C_X10_within _ mem p3 0 100) ?_
          refine tr_if_ne hC dX10_grammar_41 (tgt := 47) rfl (fun c41 => ?_) (fun c41 => ?_)
          · have hG := hG c41
            refine tr_aload_n hC dX10_grammar_47 rfl rfl ?_
            refine tr_getr hC dX10_grammar_48 gf_X10_19 sh_0 rfl ?_
            refine tr_iload_n hC dX10_grammar_51 rfl rfl ?_
            refine tr_iload_n hC dX10_grammar_52 rfl rfl ?_
            obtain ⟨g3, hG⟩ := hG
            refine tr_xVi (As := [.inl p1, .inl p2]) (fr2 := 0) (lo2 := 0) hC dX10_grammar_53 mc_X10_136 mv_X5_grammarOf sh_10 rfl ⟨Nat.le_of_ble_eq_true rfl, Nat.le_of_ble_eq_true rfl, Nat.le_of_ble_eq_true rfl⟩ rfl (C_X5_grammarOf _ mem p1 p2 g3) ?_
            refine tr_istore (loc2 := [some (.inr 0), some (.inl p1), some (.inl p2), some (.inl p3), some (.inl (mem (31 + (Int32.toNatClampNeg (p1 + 1))) (Int32.toNatClampNeg (p2 + 1))))]) hC dX10_grammar_56 (by decide) rfl ?_
            refine tr_aload_n hC dX10_grammar_58 rfl rfl ?_
            refine tr_xVv (As := []) (fr2 := 1) (lo2 := 20) hC dX10_grammar_59 mc_X10_82 mv_X10_endWhatLeansOnThis sh_0 rfl ⟨Nat.le_of_ble_eq_true rfl, Nat.le_of_ble_eq_true rfl, Nat.le_of_ble_eq_true rfl⟩ rfl (C_X10_endWhatLeansOnThis _ mem ) ?_
            refine tr_aload_n hC dX10_grammar_62 rfl rfl ?_
            refine tr_getr hC dX10_grammar_63 gf_X10_19 sh_0 rfl ?_
            refine tr_iload_n hC dX10_grammar_66 rfl rfl ?_
            refine tr_iload_n hC dX10_grammar_67 rfl rfl ?_
            refine tr_iload_n hC dX10_grammar_68 rfl rfl ?_
            have g4 := hG
            refine tr_xVv (As := [.inl p1, .inl p2, .inl p3]) (fr2 := 0) (lo2 := 0) hC dX10_grammar_69 mc_X10_139 mv_X5_setGrammar sh_10 rfl ⟨Nat.le_of_ble_eq_true rfl, Nat.le_of_ble_eq_true rfl, Nat.le_of_ble_eq_true rfl⟩ rfl (C_X5_setGrammar _ (mset (mset mem 40 6 0) 108 5 0) p1 p2 p3 g4) ?_
            refine tr_iload hC dX10_grammar_72 rfl ?_
            exact tr_iret hC hT dX10_grammar_74 ⟨_, rfl, (by rw [F_X10_grammar, if_neg c5, if_neg c13, if_neg c18, if_neg c31, if_neg c41]), (by rw [M_X10_grammar, if_neg c5, if_neg c13, if_neg c18, if_neg c31, if_neg c41])⟩
          · refine tr_bipush (v := (-2)) hC dX10_grammar_44 (by decide) ?_
            exact tr_iret hC hT dX10_grammar_46 ⟨_, rfl, (by rw [F_X10_grammar, if_neg c5, if_neg c13, if_neg c18, if_neg c31, if_pos c41]), (by rw [M_X10_grammar, if_neg c5, if_neg c13, if_neg c18, if_neg c31, if_pos c41])⟩
      · have hG := hG.1 c18
        refine tr_iload_n hC dX10_grammar_21 rfl rfl ?_
        refine tr_iconst (v := (-1)) hC dX10_grammar_22 (by decide) ?_
        refine tr_icmp_ne hC dX10_grammar_23 (tgt := 29) rfl (fun c23 => ?_) (fun c23 => ?_)
        · have hG := hG c23
          refine tr_iload_n hC dX10_grammar_29 rfl rfl ?_
          refine tr_iconst (v := (-1)) hC dX10_grammar_30 (by decide) ?_
          refine tr_icmp_eq hC dX10_grammar_31 (tgt := 47) rfl (fun c31 => ?_) (fun c31 => ?_)
          · have hG := hG.1 c31
            refine tr_aload_n hC dX10_grammar_47 rfl rfl ?_
            refine tr_getr hC dX10_grammar_48 gf_X10_19 sh_0 rfl ?_
            refine tr_iload_n hC dX10_grammar_51 rfl rfl ?_
            refine tr_iload_n hC dX10_grammar_52 rfl rfl ?_
            obtain ⟨g5, hG⟩ := hG
            refine tr_xVi (As := [.inl p1, .inl p2]) (fr2 := 0) (lo2 := 0) hC dX10_grammar_53 mc_X10_136 mv_X5_grammarOf sh_10 rfl ⟨Nat.le_of_ble_eq_true rfl, Nat.le_of_ble_eq_true rfl, Nat.le_of_ble_eq_true rfl⟩ rfl (C_X5_grammarOf _ mem p1 p2 g5) ?_
            refine tr_istore (loc2 := [some (.inr 0), some (.inl p1), some (.inl p2), some (.inl p3), some (.inl (mem (31 + (Int32.toNatClampNeg (p1 + 1))) (Int32.toNatClampNeg (p2 + 1))))]) hC dX10_grammar_56 (by decide) rfl ?_
            refine tr_aload_n hC dX10_grammar_58 rfl rfl ?_
            refine tr_xVv (As := []) (fr2 := 1) (lo2 := 20) hC dX10_grammar_59 mc_X10_82 mv_X10_endWhatLeansOnThis sh_0 rfl ⟨Nat.le_of_ble_eq_true rfl, Nat.le_of_ble_eq_true rfl, Nat.le_of_ble_eq_true rfl⟩ rfl (C_X10_endWhatLeansOnThis _ mem ) ?_
            refine tr_aload_n hC dX10_grammar_62 rfl rfl ?_
            refine tr_getr hC dX10_grammar_63 gf_X10_19 sh_0 rfl ?_
            refine tr_iload_n hC dX10_grammar_66 rfl rfl ?_
            refine tr_iload_n hC dX10_grammar_67 rfl rfl ?_
            refine tr_iload_n hC dX10_grammar_68 rfl rfl ?_
            have g6 := hG
            refine tr_xVv (As := [.inl p1, .inl p2, .inl p3]) (fr2 := 0) (lo2 := 0) hC dX10_grammar_69 mc_X10_139 mv_X5_setGrammar sh_10 rfl ⟨Nat.le_of_ble_eq_true rfl, Nat.le_of_ble_eq_true rfl, Nat.le_of_ble_eq_true rfl⟩ rfl (C_X5_setGrammar _ (mset (mset mem 40 6 0) 108 5 0) p1 p2 p3 g6) ?_
            refine tr_iload hC dX10_grammar_72 rfl ?_
            exact tr_iret hC hT dX10_grammar_74 ⟨_, rfl, (by rw [F_X10_grammar, if_neg c5, if_neg c13, if_pos c18, if_neg c23, if_pos c31]), (by rw [M_X10_grammar, if_neg c5, if_neg c13, if_pos c18, if_neg c23, if_pos c31])⟩
          · have hG := hG.2 c31
            refine tr_iload_n hC dX10_grammar_34 rfl rfl ?_
            refine tr_iconst (v := 0) hC dX10_grammar_35 (by decide) ?_
            refine tr_bipush (v := 100) hC dX10_grammar_36 (by decide) ?_
            refine tr_xSi (As := [.inl p3, .inl 0, .inl 100]) (fr2 := 0) (lo2 := 0) hC dX10_grammar_38 mc_X10_94 mst_X10_within ⟨Nat.le_of_ble_eq_true rfl, Nat.le_of_ble_eq_true rfl, Nat.le_of_ble_eq_true rfl⟩ rfl (C_X10_within _ mem p3 0 100) ?_
            refine tr_if_ne hC dX10_grammar_41 (tgt := 47) rfl (fun c41 => ?_) (fun c41 => ?_)
            · have hG := hG c41
              refine tr_aload_n hC dX10_grammar_47 rfl rfl ?_
              refine tr_getr hC dX10_grammar_48 gf_X10_19 sh_0 rfl ?_
              refine tr_iload_n hC dX10_grammar_51 rfl rfl ?_
              refine tr_iload_n hC dX10_grammar_52 rfl rfl ?_
              obtain ⟨g7, hG⟩ := hG
              refine tr_xVi (As := [.inl p1, .inl p2]) (fr2 := 0) (lo2 := 0) hC dX10_grammar_53 mc_X10_136 mv_X5_grammarOf sh_10 rfl ⟨Nat.le_of_ble_eq_true rfl, Nat.le_of_ble_eq_true rfl, Nat.le_of_ble_eq_true rfl⟩ rfl (C_X5_grammarOf _ mem p1 p2 g7) ?_
              refine tr_istore (loc2 := [some (.inr 0), some (.inl p1), some (.inl p2), some (.inl p3), some (.inl (mem (31 + (Int32.toNatClampNeg (p1 + 1))) (Int32.toNatClampNeg (p2 + 1))))]) hC dX10_grammar_56 (by decide) rfl ?_
              refine tr_aload_n hC dX10_grammar_58 rfl rfl ?_
              refine tr_xVv (As := []) (fr2 := 1) (lo2 := 20) hC dX10_grammar_59 mc_X10_82 mv_X10_endWhatLeansOnThis sh_0 rfl ⟨Nat.le_of_ble_eq_true rfl, Nat.le_of_ble_eq_true rfl, Nat.le_of_ble_eq_true rfl⟩ rfl (C_X10_endWhatLeansOnThis _ mem ) ?_
              refine tr_aload_n hC dX10_grammar_62 rfl rfl ?_
              refine tr_getr hC dX10_grammar_63 gf_X10_19 sh_0 rfl ?_
              refine tr_iload_n hC dX10_grammar_66 rfl rfl ?_
              refine tr_iload_n hC dX10_grammar_67 rfl rfl ?_
              refine tr_iload_n hC dX10_grammar_68 rfl rfl ?_
              have g8 := hG
              refine tr_xVv (As := [.inl p1, .inl p2, .inl p3]) (fr2 := 0) (lo2 := 0) hC dX10_grammar_69 mc_X10_139 mv_X5_setGrammar sh_10 rfl ⟨Nat.le_of_ble_eq_true rfl, Nat.le_of_ble_eq_true rfl, Nat.le_of_ble_eq_true rfl⟩ rfl (C_X5_setGrammar _ (mset (mset mem 40 6 0) 108 5 0) p1 p2 p3 g8) ?_
              refine tr_iload hC dX10_grammar_72 rfl ?_
              exact tr_iret hC hT dX10_grammar_74 ⟨_, rfl, (by rw [F_X10_grammar, if_neg c5, if_neg c13, if_pos c18, if_neg c23, if_neg c31, if_neg c41]), (by rw [M_X10_grammar, if_neg c5, if_neg c13, if_pos c18, if_neg c23, if_neg c31, if_neg c41])⟩
            · refine tr_bipush (v := (-2)) hC dX10_grammar_44 (by decide) ?_
              exact tr_iret hC hT dX10_grammar_46 ⟨_, rfl, (by rw [F_X10_grammar, if_neg c5, if_neg c13, if_pos c18, if_neg c23, if_neg c31, if_pos c41]), (by rw [M_X10_grammar, if_neg c5, if_neg c13, if_pos c18, if_neg c23, if_neg c31, if_pos c41])⟩
        · refine tr_bipush (v := (-2)) hC dX10_grammar_26 (by decide) ?_
          exact tr_iret hC hT dX10_grammar_28 ⟨_, rfl, (by rw [F_X10_grammar, if_neg c5, if_neg c13, if_pos c18, if_pos c23]), (by rw [M_X10_grammar, if_neg c5, if_neg c13, if_pos c18, if_pos c23])⟩
def G_X11_behind (p1 : Int32) (p2 : Int32) : Prop := (p1 = (-1) → ((p2 = (-1) → (vp_in ((9 * 8) + 8) 81)) ∧ (¬ (p2 = (-1)) → (vp_in ((9 * 8) + p2) 81)))) ∧ (¬ (p1 = (-1)) → ((p2 = (-1) → (vp_in ((9 * p1) + 8) 81)) ∧ (¬ (p2 = (-1)) → (vp_in ((9 * p1) + p2) 81))))
def F_X11_behind (mem : TMem) (p1 : Int32) (p2 : Int32) : Int32 := if p1 = (-1) then if p2 = (-1) then mem 193 (Int32.toNatClampNeg ((9 * 8) + 8)) else mem 193 (Int32.toNatClampNeg ((9 * 8) + p2)) else if p2 = (-1) then mem 193 (Int32.toNatClampNeg ((9 * p1) + 8)) else mem 193 (Int32.toNatClampNeg ((9 * p1) + p2))
set_option maxRecDepth 100000 in
theorem C_X11_behind (l : Launch) (mem : TMem) (p1 : Int32) (p2 : Int32) (hG : G_X11_behind p1 p2) : TMi l i_X11_behind 0 0 [.inr 187, .inl p1, .inl p2] mem (fun x m => x = F_X11_behind mem p1 p2 ∧ m = mem) := by
  refine tw_met (by decide) (Nat.le_of_ble_eq_true rfl) (fun κ hl hC hT => ?_)
  subst hl
  unfold G_X11_behind at hG
  show WT κ 0 [some (.inr 187), some (.inl p1), some (.inl p2)] [] mem
  refine tr_aload_n hC dX11_behind_0 rfl rfl ?_
  refine tr_getr hC dX11_behind_1 gf_X11_29 sh_187 rfl ?_
  refine tr_bipush (v := 9) hC dX11_behind_4 (by decide) ?_
  refine tr_iload_n hC dX11_behind_6 rfl rfl ?_
  refine tr_iconst (v := (-1)) hC dX11_behind_7 (by decide) ?_
  refine tr_icmp_ne hC dX11_behind_8 (tgt := 16) rfl (fun c8 => ?_) (fun c8 => ?_)
  · have hG := hG.2 c8
    refine tr_iload_n hC dX11_behind_16 rfl rfl ?_
    refine tr_imul hC dX11_behind_17 ?_
    refine tr_iload_n hC dX11_behind_18 rfl rfl ?_
    refine tr_iconst (v := (-1)) hC dX11_behind_19 (by decide) ?_
    refine tr_icmp_ne hC dX11_behind_20 (tgt := 28) rfl (fun c20 => ?_) (fun c20 => ?_)
    · have hG := hG.2 c20
      refine tr_iload_n hC dX11_behind_28 rfl rfl ?_
      refine tr_iadd hC dX11_behind_29 ?_
      have g1 := hG
      refine tr_al (v := mem 193 (Int32.toNatClampNeg ((9 * p1) + p2))) hC dX11_behind_30 sh_193 g1 rfl ?_
      exact tr_iret hC hT dX11_behind_31 ⟨_, rfl, (by rw [F_X11_behind, if_neg c8, if_neg c20]), rfl⟩
    · have hG := hG.1 c20
      refine tr_bipush (v := 8) hC dX11_behind_23 (by decide) ?_
      refine tr_goto hC dX11_behind_25 (tgt := 29) rfl ?_
      refine tr_iadd hC dX11_behind_29 ?_
      have g2 := hG
      refine tr_al (v := mem 193 (Int32.toNatClampNeg ((9 * p1) + 8))) hC dX11_behind_30 sh_193 g2 rfl ?_
      exact tr_iret hC hT dX11_behind_31 ⟨_, rfl, (by rw [F_X11_behind, if_neg c8, if_pos c20]), rfl⟩
  · have hG := hG.1 c8
    refine tr_bipush (v := 8) hC dX11_behind_11 (by decide) ?_
    refine tr_goto hC dX11_behind_13 (tgt := 17) rfl ?_
    refine tr_imul hC dX11_behind_17 ?_
    refine tr_iload_n hC dX11_behind_18 rfl rfl ?_
    refine tr_iconst (v := (-1)) hC dX11_behind_19 (by decide) ?_
    refine tr_icmp_ne hC dX11_behind_20 (tgt := 28) rfl (fun c20 => ?_) (fun c20 => ?_)
    · have hG := hG.2 c20
      refine tr_iload_n hC dX11_behind_28 rfl rfl ?_
      refine tr_iadd hC dX11_behind_29 ?_
      have g3 := hG
      refine tr_al (v := mem 193 (Int32.toNatClampNeg ((9 * 8) + p2))) hC dX11_behind_30 sh_193 g3 rfl ?_
      exact tr_iret hC hT dX11_behind_31 ⟨_, rfl, (by rw [F_X11_behind, if_pos c8, if_neg c20]), rfl⟩
    · have hG := hG.1 c20
      refine tr_bipush (v := 8) hC dX11_behind_23 (by decide) ?_
      refine tr_goto hC dX11_behind_25 (tgt := 29) rfl ?_
      refine tr_iadd hC dX11_behind_29 ?_
      have g4 := hG
      refine tr_al (v := mem 193 (Int32.toNatClampNeg ((9 * 8) + 8))) hC dX11_behind_30 sh_193 g4 rfl ?_
      exact tr_iret hC hT dX11_behind_31 ⟨_, rfl, (by rw [F_X11_behind, if_pos c8, if_pos c20]), rfl⟩
def G_X11_grammar (mem : TMem) (p1 : Int32) (p2 : Int32) (p3 : Int32) : Prop := (p1 = (-1) → ((¬ (p2 = (-1)) → ((¬ ((F_X11_in p2 0 ((mem 187 4) - 1)) = 0) → ((¬ ((F_X11_in p3 (-1) 100) = 0) → (G_X11_behind p1 p2 ∧ (vp_in ((9 * 8) + p2) 81))))))))) ∧ (¬ (p1 = (-1)) → ((¬ ((F_X11_in p1 0 ((mem 187 4) - 1)) = 0) → ((p2 = (-1) → ((¬ ((F_X11_in p3 (-1) 100) = 0) → (G_X11_behind p1 p2 ∧ (vp_in ((9 * p1) + 8) 81))))) ∧ (¬ (p2 = (-1)) → ((¬ ((F_X11_in p2 0 ((mem 187 4) - 1)) = 0) → ((¬ ((F_X11_in p3 (-1) 100) = 0) → (G_X11_behind p1 p2 ∧ (vp_in ((9 * p1) + p2) 81)))))))))))
def F_X11_grammar (mem : TMem) (p1 : Int32) (p2 : Int32) (p3 : Int32) : Int32 := if p1 = (-1) then if p2 = (-1) then (-2) else if (F_X11_in p2 0 ((mem 187 4) - 1)) = 0 then (-2) else if (F_X11_in p3 (-1) 100) = 0 then (-2) else F_X11_behind mem p1 p2 else if (F_X11_in p1 0 ((mem 187 4) - 1)) = 0 then (-2) else if p2 = (-1) then if (F_X11_in p3 (-1) 100) = 0 then (-2) else F_X11_behind mem p1 p2 else if (F_X11_in p2 0 ((mem 187 4) - 1)) = 0 then (-2) else if (F_X11_in p3 (-1) 100) = 0 then (-2) else F_X11_behind mem p1 p2
def M_X11_grammar (mem : TMem) (p1 : Int32) (p2 : Int32) (p3 : Int32) : TMem := if p1 = (-1) then if p2 = (-1) then mem else if (F_X11_in p2 0 ((mem 187 4) - 1)) = 0 then mem else if (F_X11_in p3 (-1) 100) = 0 then mem else (mset (mset mem 193 (Int32.toNatClampNeg ((9 * 8) + p2)) p3) 187 11 0) else if (F_X11_in p1 0 ((mem 187 4) - 1)) = 0 then mem else if p2 = (-1) then if (F_X11_in p3 (-1) 100) = 0 then mem else (mset (mset mem 193 (Int32.toNatClampNeg ((9 * p1) + 8)) p3) 187 11 0) else if (F_X11_in p2 0 ((mem 187 4) - 1)) = 0 then mem else if (F_X11_in p3 (-1) 100) = 0 then mem else (mset (mset mem 193 (Int32.toNatClampNeg ((9 * p1) + p2)) p3) 187 11 0)
set_option maxRecDepth 100000 in
theorem C_X11_grammar (l : Launch) (mem : TMem) (p1 : Int32) (p2 : Int32) (p3 : Int32) (hG : G_X11_grammar mem p1 p2 p3) : TMi l i_X11_grammar 2 43 [.inr 187, .inl p1, .inl p2, .inl p3] mem (fun x m => x = F_X11_grammar mem p1 p2 p3 ∧ m = M_X11_grammar mem p1 p2 p3) := by
  refine tw_met (by decide) (Nat.le_of_ble_eq_true rfl) (fun κ hl hC hT => ?_)
  subst hl
  unfold G_X11_grammar at hG
  show WT κ 0 [some (.inr 187), some (.inl p1), some (.inl p2), some (.inl p3), none] [] mem
  refine tr_iload_n hC dX11_grammar_0 rfl rfl ?_
  refine tr_iconst (v := (-1)) hC dX11_grammar_1 (by decide) ?_
  refine tr_icmp_eq hC dX11_grammar_2 (tgt := 13) rfl (fun c2 => ?_) (fun c2 => ?_)
  · have hG := hG.1 c2
    refine tr_iload_n hC dX11_grammar_13 rfl rfl ?_
    refine tr_iconst (v := (-1)) hC dX11_grammar_14 (by decide) ?_
    refine tr_icmp_eq hC dX11_grammar_15 (tgt := 26) rfl (fun c15 => ?_) (fun c15 => ?_)
    · refine tr_iload_n hC dX11_grammar_26 rfl rfl ?_
      refine tr_iconst (v := (-1)) hC dX11_grammar_27 (by decide) ?_
      refine tr_icmp_ne hC dX11_grammar_28 (tgt := 36) rfl (fun h => absurd c2 h) (fun _ => ?_)
      refine tr_iload_n hC dX11_grammar_31 rfl rfl ?_
      refine tr_iconst (v := (-1)) hC dX11_grammar_32 (by decide) ?_
      refine tr_icmp_eq hC dX11_grammar_33 (tgt := 46) rfl (fun _ => ?_) (fun h => absurd c15 h)
      refine tr_bipush (v := (-2)) hC dX11_grammar_46 (by decide) ?_
      exact tr_iret hC hT dX11_grammar_48 ⟨_, rfl, (by rw [F_X11_grammar, if_pos c2, if_pos c15]), (by rw [M_X11_grammar, if_pos c2, if_pos c15])⟩
    · have hG := hG c15
      refine tr_aload_n hC dX11_grammar_18 rfl rfl ?_
      refine tr_iload_n hC dX11_grammar_19 rfl rfl ?_
      refine tr_xVi (As := [.inl p2]) (fr2 := 1) (lo2 := 22) hC dX11_grammar_20 mc_X11_111 mv_X11_isWord sh_187 rfl ⟨Nat.le_of_ble_eq_true rfl, Nat.le_of_ble_eq_true rfl, Nat.le_of_ble_eq_true rfl⟩ rfl (C_X11_isWord _ mem p2) ?_
      refine tr_if_eq hC dX11_grammar_23 (tgt := 46) rfl (fun c23 => ?_) (fun c23 => ?_)
      · refine tr_bipush (v := (-2)) hC dX11_grammar_46 (by decide) ?_
        exact tr_iret hC hT dX11_grammar_48 ⟨_, rfl, (by rw [F_X11_grammar, if_pos c2, if_neg c15, if_pos c23]), (by rw [M_X11_grammar, if_pos c2, if_neg c15, if_pos c23])⟩
      · have hG := hG c23
        refine tr_iload_n hC dX11_grammar_26 rfl rfl ?_
        refine tr_iconst (v := (-1)) hC dX11_grammar_27 (by decide) ?_
        refine tr_icmp_ne hC dX11_grammar_28 (tgt := 36) rfl (fun h => absurd c2 h) (fun _ => ?_)
        refine tr_iload_n hC dX11_grammar_31 rfl rfl ?_
        refine tr_iconst (v := (-1)) hC dX11_grammar_32 (by decide) ?_
        refine tr_icmp_eq hC dX11_grammar_33 (tgt := 46) rfl (fun h => absurd h c15) (fun _ => ?_)
        refine tr_iload_n hC dX11_grammar_36 rfl rfl ?_
        refine tr_iconst (v := (-1)) hC dX11_grammar_37 (by decide) ?_
        refine tr_bipush (v := 100) hC dX11_grammar_38 (by decide) ?_
        refine tr_xSi (As := [.inl p3, .inl (-1), .inl 100]) (fr2 := 0) (lo2 := 0) hC dX11_grammar_40 mc_X11_89 mst_X11_in ⟨Nat.le_of_ble_eq_true rfl, Nat.le_of_ble_eq_true rfl, Nat.le_of_ble_eq_true rfl⟩ rfl (C_X11_in _ mem p3 (-1) 100) ?_
        refine tr_if_ne hC dX11_grammar_43 (tgt := 49) rfl (fun c43 => ?_) (fun c43 => ?_)
        · have hG := hG c43
          refine tr_aload_n hC dX11_grammar_49 rfl rfl ?_
          refine tr_iload_n hC dX11_grammar_50 rfl rfl ?_
          refine tr_iload_n hC dX11_grammar_51 rfl rfl ?_
          obtain ⟨g1, hG⟩ := hG
          refine tr_xVi (As := [.inl p1, .inl p2]) (fr2 := 0) (lo2 := 0) hC dX11_grammar_52 mc_X11_115 mv_X11_behind sh_187 rfl ⟨Nat.le_of_ble_eq_true rfl, Nat.le_of_ble_eq_true rfl, Nat.le_of_ble_eq_true rfl⟩ rfl (C_X11_behind _ mem p1 p2 g1) ?_
          refine tr_istore (loc2 := [some (.inr 187), some (.inl p1), some (.inl p2), some (.inl p3), some (.inl (F_X11_behind mem p1 p2))]) hC dX11_grammar_55 (by decide) rfl ?_
          refine tr_aload_n hC dX11_grammar_57 rfl rfl ?_
          refine tr_getr hC dX11_grammar_58 gf_X11_29 sh_187 rfl ?_
          refine tr_bipush (v := 9) hC dX11_grammar_61 (by decide) ?_
          refine tr_iload_n hC dX11_grammar_63 rfl rfl ?_
          refine tr_iconst (v := (-1)) hC dX11_grammar_64 (by decide) ?_
          refine tr_icmp_ne hC dX11_grammar_65 (tgt := 73) rfl (fun h => absurd c2 h) (fun _ => ?_)
          refine tr_bipush (v := 8) hC dX11_grammar_68 (by decide) ?_
          refine tr_goto hC dX11_grammar_70 (tgt := 74) rfl ?_
          refine tr_imul hC dX11_grammar_74 ?_
          refine tr_iload_n hC dX11_grammar_75 rfl rfl ?_
          refine tr_iconst (v := (-1)) hC dX11_grammar_76 (by decide) ?_
          refine tr_icmp_ne hC dX11_grammar_77 (tgt := 85) rfl (fun _ => ?_) (fun h => absurd h c15)
          refine tr_iload_n hC dX11_grammar_85 rfl rfl ?_
          refine tr_iadd hC dX11_grammar_86 ?_
          refine tr_iload_n hC dX11_grammar_87 rfl rfl ?_
          have g2 := hG
          refine tr_iast hC dX11_grammar_88 sh_193 g2 ?_
          refine tr_aload_n hC dX11_grammar_89 rfl rfl ?_
          refine tr_iconst (v := 0) hC dX11_grammar_90 (by decide) ?_
          refine tr_puti hC dX11_grammar_91 gp_X11_96 sh_187 rfl (by decide) (by decide) ?_
          refine tr_iload hC dX11_grammar_94 rfl ?_
          exact tr_iret hC hT dX11_grammar_96 ⟨_, rfl, (by rw [F_X11_grammar, if_pos c2, if_neg c15, if_neg c23, if_neg c43]), (by rw [M_X11_grammar, if_pos c2, if_neg c15, if_neg c23, if_neg c43])⟩
        · refine tr_bipush (v := (-2)) hC dX11_grammar_46 (by decide) ?_
          exact tr_iret hC hT dX11_grammar_48 ⟨_, rfl, (by rw [F_X11_grammar, if_pos c2, if_neg c15, if_neg c23, if_pos c43]), (by rw [M_X11_grammar, if_pos c2, if_neg c15, if_neg c23, if_pos c43])⟩
  · have hG := hG.2 c2
    refine tr_aload_n hC dX11_grammar_5 rfl rfl ?_
    refine tr_iload_n hC dX11_grammar_6 rfl rfl ?_
    refine tr_xVi (As := [.inl p1]) (fr2 := 1) (lo2 := 22) hC dX11_grammar_7 mc_X11_111 mv_X11_isWord sh_187 rfl ⟨Nat.le_of_ble_eq_true rfl, Nat.le_of_ble_eq_true rfl, Nat.le_of_ble_eq_true rfl⟩ rfl (C_X11_isWord _ mem p1) ?_
    refine tr_if_eq hC dX11_grammar_10 (tgt := 46) rfl (fun c10 => ?_) (fun c10 => ?_)
    · refine tr_bipush (v := (-2)) hC dX11_grammar_46 (by decide) ?_
      exact tr_iret hC hT dX11_grammar_48 ⟨_, rfl, (by rw [F_X11_grammar, if_neg c2, if_pos c10]), (by rw [M_X11_grammar, if_neg c2, if_pos c10])⟩
    · have hG := hG c10
      refine tr_iload_n hC dX11_grammar_13 rfl rfl ?_
      refine tr_iconst (v := (-1)) hC dX11_grammar_14 (by decide) ?_
      refine tr_icmp_eq hC dX11_grammar_15 (tgt := 26) rfl (fun c15 => ?_) (fun c15 => ?_)
      · have hG := hG.1 c15
        refine tr_iload_n hC dX11_grammar_26 rfl rfl ?_
        refine tr_iconst (v := (-1)) hC dX11_grammar_27 (by decide) ?_
        refine tr_icmp_ne hC dX11_grammar_28 (tgt := 36) rfl (fun _ => ?_) (fun h => absurd h c2)
        refine tr_iload_n hC dX11_grammar_36 rfl rfl ?_
        refine tr_iconst (v := (-1)) hC dX11_grammar_37 (by decide) ?_
        refine tr_bipush (v := 100) hC dX11_grammar_38 (by decide) ?_
        refine tr_xSi (As := [.inl p3, .inl (-1), .inl 100]) (fr2 := 0) (lo2 := 0) hC dX11_grammar_40 mc_X11_89 mst_X11_in ⟨Nat.le_of_ble_eq_true rfl, Nat.le_of_ble_eq_true rfl, Nat.le_of_ble_eq_true rfl⟩ rfl (C_X11_in _ mem p3 (-1) 100) ?_
        refine tr_if_ne hC dX11_grammar_43 (tgt := 49) rfl (fun c43 => ?_) (fun c43 => ?_)
        · have hG := hG c43
          refine tr_aload_n hC dX11_grammar_49 rfl rfl ?_
          refine tr_iload_n hC dX11_grammar_50 rfl rfl ?_
          refine tr_iload_n hC dX11_grammar_51 rfl rfl ?_
          obtain ⟨g3, hG⟩ := hG
          refine tr_xVi (As := [.inl p1, .inl p2]) (fr2 := 0) (lo2 := 0) hC dX11_grammar_52 mc_X11_115 mv_X11_behind sh_187 rfl ⟨Nat.le_of_ble_eq_true rfl, Nat.le_of_ble_eq_true rfl, Nat.le_of_ble_eq_true rfl⟩ rfl (C_X11_behind _ mem p1 p2 g3) ?_
          refine tr_istore (loc2 := [some (.inr 187), some (.inl p1), some (.inl p2), some (.inl p3), some (.inl (F_X11_behind mem p1 p2))]) hC dX11_grammar_55 (by decide) rfl ?_
          refine tr_aload_n hC dX11_grammar_57 rfl rfl ?_
          refine tr_getr hC dX11_grammar_58 gf_X11_29 sh_187 rfl ?_
          refine tr_bipush (v := 9) hC dX11_grammar_61 (by decide) ?_
          refine tr_iload_n hC dX11_grammar_63 rfl rfl ?_
          refine tr_iconst (v := (-1)) hC dX11_grammar_64 (by decide) ?_
          refine tr_icmp_ne hC dX11_grammar_65 (tgt := 73) rfl (fun _ => ?_) (fun h => absurd h c2)
          refine tr_iload_n hC dX11_grammar_73 rfl rfl ?_
          refine tr_imul hC dX11_grammar_74 ?_
          refine tr_iload_n hC dX11_grammar_75 rfl rfl ?_
          refine tr_iconst (v := (-1)) hC dX11_grammar_76 (by decide) ?_
          refine tr_icmp_ne hC dX11_grammar_77 (tgt := 85) rfl (fun h => absurd c15 h) (fun _ => ?_)
          refine tr_bipush (v := 8) hC dX11_grammar_80 (by decide) ?_
          refine tr_goto hC dX11_grammar_82 (tgt := 86) rfl ?_
          refine tr_iadd hC dX11_grammar_86 ?_
          refine tr_iload_n hC dX11_grammar_87 rfl rfl ?_
          have g4 := hG
          refine tr_iast hC dX11_grammar_88 sh_193 g4 ?_
          refine tr_aload_n hC dX11_grammar_89 rfl rfl ?_
          refine tr_iconst (v := 0) hC dX11_grammar_90 (by decide) ?_
          refine tr_puti hC dX11_grammar_91 gp_X11_96 sh_187 rfl (by decide) (by decide) ?_
          refine tr_iload hC dX11_grammar_94 rfl ?_
          exact tr_iret hC hT dX11_grammar_96 ⟨_, rfl, (by rw [F_X11_grammar, if_neg c2, if_neg c10, if_pos c15, if_neg c43]), (by rw [M_X11_grammar, if_neg c2, if_neg c10, if_pos c15, if_neg c43])⟩
        · refine tr_bipush (v := (-2)) hC dX11_grammar_46 (by decide) ?_
          exact tr_iret hC hT dX11_grammar_48 ⟨_, rfl, (by rw [F_X11_grammar, if_neg c2, if_neg c10, if_pos c15, if_pos c43]), (by rw [M_X11_grammar, if_neg c2, if_neg c10, if_pos c15, if_pos c43])⟩
      · have hG := hG.2 c15
        refine tr_aload_n hC dX11_grammar_18 rfl rfl ?_
        refine tr_iload_n hC dX11_grammar_19 rfl rfl ?_
        refine tr_xVi (As := [.inl p2]) (fr2 := 1) (lo2 := 22) hC dX11_grammar_20 mc_X11_111 mv_X11_isWord sh_187 rfl ⟨Nat.le_of_ble_eq_true rfl, Nat.le_of_ble_eq_true rfl, Nat.le_of_ble_eq_true rfl⟩ rfl (C_X11_isWord _ mem p2) ?_
        refine tr_if_eq hC dX11_grammar_23 (tgt := 46) rfl (fun c23 => ?_) (fun c23 => ?_)
        · refine tr_bipush (v := (-2)) hC dX11_grammar_46 (by decide) ?_
          exact tr_iret hC hT dX11_grammar_48 ⟨_, rfl, (by rw [F_X11_grammar, if_neg c2, if_neg c10, if_neg c15, if_pos c23]), (by rw [M_X11_grammar, if_neg c2, if_neg c10, if_neg c15, if_pos c23])⟩
        · have hG := hG c23
          refine tr_iload_n hC dX11_grammar_26 rfl rfl ?_
          refine tr_iconst (v := (-1)) hC dX11_grammar_27 (by decide) ?_
          refine tr_icmp_ne hC dX11_grammar_28 (tgt := 36) rfl (fun _ => ?_) (fun h => absurd h c2)
          refine tr_iload_n hC dX11_grammar_36 rfl rfl ?_
          refine tr_iconst (v := (-1)) hC dX11_grammar_37 (by decide) ?_
          refine tr_bipush (v := 100) hC dX11_grammar_38 (by decide) ?_
          refine tr_xSi (As := [.inl p3, .inl (-1), .inl 100]) (fr2 := 0) (lo2 := 0) hC dX11_grammar_40 mc_X11_89 mst_X11_in ⟨Nat.le_of_ble_eq_true rfl, Nat.le_of_ble_eq_true rfl, Nat.le_of_ble_eq_true rfl⟩ rfl (C_X11_in _ mem p3 (-1) 100) ?_
          refine tr_if_ne hC dX11_grammar_43 (tgt := 49) rfl (fun c43 => ?_) (fun c43 => ?_)
          · have hG := hG c43
            refine tr_aload_n hC dX11_grammar_49 rfl rfl ?_
            refine tr_iload_n hC dX11_grammar_50 rfl rfl ?_
            refine tr_iload_n hC dX11_grammar_51 rfl rfl ?_
            obtain ⟨g5, hG⟩ := hG
            refine tr_xVi (As := [.inl p1, .inl p2]) (fr2 := 0) (lo2 := 0) hC dX11_grammar_52 mc_X11_115 mv_X11_behind sh_187 rfl ⟨Nat.le_of_ble_eq_true rfl, Nat.le_of_ble_eq_true rfl, Nat.le_of_ble_eq_true rfl⟩ rfl (C_X11_behind _ mem p1 p2 g5) ?_
            refine tr_istore (loc2 := [some (.inr 187), some (.inl p1), some (.inl p2), some (.inl p3), some (.inl (F_X11_behind mem p1 p2))]) hC dX11_grammar_55 (by decide) rfl ?_
            refine tr_aload_n hC dX11_grammar_57 rfl rfl ?_
            refine tr_getr hC dX11_grammar_58 gf_X11_29 sh_187 rfl ?_
            refine tr_bipush (v := 9) hC dX11_grammar_61 (by decide) ?_
            refine tr_iload_n hC dX11_grammar_63 rfl rfl ?_
            refine tr_iconst (v := (-1)) hC dX11_grammar_64 (by decide) ?_
            refine tr_icmp_ne hC dX11_grammar_65 (tgt := 73) rfl (fun _ => ?_) (fun h => absurd h c2)
            refine tr_iload_n hC dX11_grammar_73 rfl rfl ?_
            refine tr_imul hC dX11_grammar_74 ?_
            refine tr_iload_n hC dX11_grammar_75 rfl rfl ?_
            refine tr_iconst (v := (-1)) hC dX11_grammar_76 (by decide) ?_
            refine tr_icmp_ne hC dX11_grammar_77 (tgt := 85) rfl (fun _ => ?_) (fun h => absurd h c15)
            refine tr_iload_n hC dX11_grammar_85 rfl rfl ?_
            refine tr_iadd hC dX11_grammar_86 ?_
            refine tr_iload_n hC dX11_grammar_87 rfl rfl ?_
            have g6 := hG
            refine tr_iast hC dX11_grammar_88 sh_193 g6 ?_
            refine tr_aload_n hC dX11_grammar_89 rfl rfl ?_
            refine tr_iconst (v := 0) hC dX11_grammar_90 (by decide) ?_
            refine tr_puti hC dX11_grammar_91 gp_X11_96 sh_187 rfl (by decide) (by decide) ?_
            refine tr_iload hC dX11_grammar_94 rfl ?_
            exact tr_iret hC hT dX11_grammar_96 ⟨_, rfl, (by rw [F_X11_grammar, if_neg c2, if_neg c10, if_neg c15, if_neg c23, if_neg c43]), (by rw [M_X11_grammar, if_neg c2, if_neg c10, if_neg c15, if_neg c23, if_neg c43])⟩
          · refine tr_bipush (v := (-2)) hC dX11_grammar_46 (by decide) ?_
            exact tr_iret hC hT dX11_grammar_48 ⟨_, rfl, (by rw [F_X11_grammar, if_neg c2, if_neg c10, if_neg c15, if_neg c23, if_pos c43]), (by rw [M_X11_grammar, if_neg c2, if_neg c10, if_neg c15, if_neg c23, if_pos c43])⟩
def G_X5_joint (p1 : Int32) (p2 : Int32) : Prop := G_X5_grammarOf p1 p2
def F_X5_joint (mem : TMem) (p1 : Int32) (p2 : Int32) : Int32 := if (mem (31 + (Int32.toNatClampNeg (p1 + 1))) (Int32.toNatClampNeg (p2 + 1))) = (-1) then 1000000 else mem (31 + (Int32.toNatClampNeg (p1 + 1))) (Int32.toNatClampNeg (p2 + 1))
set_option maxRecDepth 100000 in
theorem C_X5_joint (l : Launch) (mem : TMem) (p1 : Int32) (p2 : Int32) (hG : G_X5_joint p1 p2) : TMi l i_X5_joint 1 22 [.inr 10, .inl p1, .inl p2] mem (fun x m => x = F_X5_joint mem p1 p2 ∧ m = mem) := by
  refine tw_met (by decide) (Nat.le_of_ble_eq_true rfl) (fun κ hl hC hT => ?_)
  subst hl
  unfold G_X5_joint at hG
  show WT κ 0 [some (.inr 10), some (.inl p1), some (.inl p2), none] [] mem
  refine tr_aload_n hC dX5_joint_0 rfl rfl ?_
  refine tr_iload_n hC dX5_joint_1 rfl rfl ?_
  refine tr_iload_n hC dX5_joint_2 rfl rfl ?_
  have g1 := hG
  refine tr_xVi (As := [.inl p1, .inl p2]) (fr2 := 0) (lo2 := 0) hC dX5_joint_3 mc_X5_34 mv_X5_grammarOf sh_10 rfl ⟨Nat.le_of_ble_eq_true rfl, Nat.le_of_ble_eq_true rfl, Nat.le_of_ble_eq_true rfl⟩ rfl (C_X5_grammarOf _ mem p1 p2 g1) ?_
  refine tr_istore_n (loc2 := [some (.inr 10), some (.inl p1), some (.inl p2), some (.inl (mem (31 + (Int32.toNatClampNeg (p1 + 1))) (Int32.toNatClampNeg (p2 + 1))))]) hC dX5_joint_6 rfl (by decide) rfl ?_
  refine tr_iload_n hC dX5_joint_7 rfl rfl ?_
  refine tr_iconst (v := (-1)) hC dX5_joint_8 (by decide) ?_
  refine tr_icmp_ne hC dX5_joint_9 (tgt := 17) rfl (fun c9 => ?_) (fun c9 => ?_)
  · refine tr_iload_n hC dX5_joint_17 rfl rfl ?_
    exact tr_iret hC hT dX5_joint_18 ⟨_, rfl, (by rw [F_X5_joint, if_neg c9]), rfl⟩
  · refine tr_ldc hC dX5_joint_12 lc_X5_38 ?_
    refine tr_goto hC dX5_joint_14 (tgt := 18) rfl ?_
    exact tr_iret hC hT dX5_joint_18 ⟨_, rfl, (by rw [F_X5_joint, if_pos c9]), rfl⟩
def G_X5_lengthOf (p1 : Int32) (p2 : Int32) : Prop := vp_in ((p1 * 2) + p2) 16
set_option maxRecDepth 100000 in
theorem C_X5_lengthOf (l : Launch) (mem : TMem) (p1 : Int32) (p2 : Int32) (hG : G_X5_lengthOf p1 p2) : TMi l i_X5_lengthOf 0 0 [.inr 10, .inl p1, .inl p2] mem (fun x m => x = mem 28 (Int32.toNatClampNeg ((p1 * 2) + p2)) ∧ m = mem) := by
  refine tw_met (by decide) (Nat.le_of_ble_eq_true rfl) (fun κ hl hC hT => ?_)
  subst hl
  unfold G_X5_lengthOf at hG
  show WT κ 0 [some (.inr 10), some (.inl p1), some (.inl p2)] [] mem
  refine tr_aload_n hC dX5_lengthOf_0 rfl rfl ?_
  refine tr_getr hC dX5_lengthOf_1 gf_X5_16 sh_10 rfl ?_
  refine tr_iload_n hC dX5_lengthOf_4 rfl rfl ?_
  refine tr_iconst (v := 2) hC dX5_lengthOf_5 (by decide) ?_
  refine tr_imul hC dX5_lengthOf_6 ?_
  refine tr_iload_n hC dX5_lengthOf_7 rfl rfl ?_
  refine tr_iadd hC dX5_lengthOf_8 ?_
  have g1 := hG
  refine tr_al (v := mem 28 (Int32.toNatClampNeg ((p1 * 2) + p2))) hC dX5_lengthOf_9 sh_28 g1 rfl ?_
  exact tr_iret hC hT dX5_lengthOf_10 ⟨_, rfl, rfl, rfl⟩
def G_X5_soundOf (p1 : Int32) (p2 : Int32) (p3 : Int32) : Prop := (vp_in ((p1 * 2) + p2) 16) ∧ vp_in p3 4
set_option maxRecDepth 100000 in
theorem C_X5_soundOf (l : Launch) (mem : TMem) (p1 : Int32) (p2 : Int32) (p3 : Int32) (hG : G_X5_soundOf p1 p2 p3) : TMi l i_X5_soundOf 0 0 [.inr 10, .inl p1, .inl p2, .inl p3] mem (fun x m => x = mem (12 + (Int32.toNatClampNeg ((p1 * 2) + p2))) p3.toNatClampNeg ∧ m = mem) := by
  refine tw_met (by decide) (Nat.le_of_ble_eq_true rfl) (fun κ hl hC hT => ?_)
  subst hl
  unfold G_X5_soundOf at hG
  show WT κ 0 [some (.inr 10), some (.inl p1), some (.inl p2), some (.inl p3)] [] mem
  refine tr_aload_n hC dX5_soundOf_0 rfl rfl ?_
  refine tr_getr hC dX5_soundOf_1 gf_X5_11 sh_10 rfl ?_
  refine tr_iload_n hC dX5_soundOf_4 rfl rfl ?_
  refine tr_iconst (v := 2) hC dX5_soundOf_5 (by decide) ?_
  refine tr_imul hC dX5_soundOf_6 ?_
  refine tr_iload_n hC dX5_soundOf_7 rfl rfl ?_
  refine tr_iadd hC dX5_soundOf_8 ?_
  obtain ⟨g1, hG⟩ := hG
  refine tr_aald hC dX5_soundOf_9 sh_11 g1 ?_
  refine tr_iload_n hC dX5_soundOf_10 rfl rfl ?_
  have g2 := hG
  refine tr_al (v := mem (12 + (Int32.toNatClampNeg ((p1 * 2) + p2))) p3.toNatClampNeg) hC dX5_soundOf_11 (shr_11 _ (vp_lt g1)) g2 rfl ?_
  exact tr_iret hC hT dX5_soundOf_12 ⟨_, rfl, rfl, rfl⟩
def G_X2_costAt (mem : TMem) (p1 : Int32) (p2 : Int32) : Prop := vp_in p2 40 ∧ ((¬ ((mem 2 p2.toNatClampNeg) = (-1)) → (vp_in p1 6 ∧ vp_in (mem 2 p2.toNatClampNeg) 8)))
def F_X2_costAt (mem : TMem) (p1 : Int32) (p2 : Int32) : Int32 := if (mem 2 p2.toNatClampNeg) = (-1) then 10 else mem (4 + p1.toNatClampNeg) (Int32.toNatClampNeg (mem 2 p2.toNatClampNeg))
set_option maxRecDepth 100000 in
theorem C_X2_costAt (l : Launch) (mem : TMem) (p1 : Int32) (p2 : Int32) (hG : G_X2_costAt mem p1 p2) : TMi l i_X2_costAt 0 0 [.inr 1, .inl p1, .inl p2] mem (fun x m => x = F_X2_costAt mem p1 p2 ∧ m = mem) := by
  refine tw_met (by decide) (Nat.le_of_ble_eq_true rfl) (fun κ hl hC hT => ?_)
  subst hl
  unfold G_X2_costAt at hG
  show WT κ 0 [some (.inr 1), some (.inl p1), some (.inl p2)] [] mem
  refine tr_aload_n hC dX2_costAt_0 rfl rfl ?_
  refine tr_getr hC dX2_costAt_1 gf_X2_9 sh_1 rfl ?_
  refine tr_iload_n hC dX2_costAt_4 rfl rfl ?_
  obtain ⟨g1, hG⟩ := hG
  refine tr_al (v := mem 2 p2.toNatClampNeg) hC dX2_costAt_5 sh_2 g1 rfl ?_
  refine tr_iconst (v := (-1)) hC dX2_costAt_6 (by decide) ?_
  refine tr_icmp_ne hC dX2_costAt_7 (tgt := 15) rfl (fun c7 => ?_) (fun c7 => ?_)
  · have hG := hG c7
    refine tr_aload_n hC dX2_costAt_15 rfl rfl ?_
    refine tr_getr hC dX2_costAt_16 gf_X2_17 sh_1 rfl ?_
    refine tr_iload_n hC dX2_costAt_19 rfl rfl ?_
    obtain ⟨g2, hG⟩ := hG
    refine tr_aald hC dX2_costAt_20 sh_3 g2 ?_
    refine tr_aload_n hC dX2_costAt_21 rfl rfl ?_
    refine tr_getr hC dX2_costAt_22 gf_X2_9 sh_1 rfl ?_
    refine tr_iload_n hC dX2_costAt_25 rfl rfl ?_
    refine tr_al (v := mem 2 p2.toNatClampNeg) hC dX2_costAt_26 sh_2 g1 rfl ?_
    have g3 := hG
    refine tr_al (v := mem (4 + p1.toNatClampNeg) (Int32.toNatClampNeg (mem 2 p2.toNatClampNeg))) hC dX2_costAt_27 (shr_3 _ (vp_lt g2)) g3 rfl ?_
    exact tr_iret hC hT dX2_costAt_28 ⟨_, rfl, (by rw [F_X2_costAt, if_neg c7]), rfl⟩
  · refine tr_bipush (v := 10) hC dX2_costAt_10 (by decide) ?_
    refine tr_goto hC dX2_costAt_12 (tgt := 28) rfl ?_
    exact tr_iret hC hT dX2_costAt_28 ⟨_, rfl, (by rw [F_X2_costAt, if_pos c7]), rfl⟩
set_option maxRecDepth 100000 in
theorem C_X7_clear_104 (l : Launch) (mem : TMem)  : TMv l i_X7_clear 0 0 [.inr 104] mem (fun m => m = (mset mem 104 1 0)) := by
  refine tw_met (by decide) (Nat.le_of_ble_eq_true rfl) (fun κ hl hC hT => ?_)
  subst hl
  show WT κ 0 [some (.inr 104)] [] mem
  refine tr_aload_n hC dX7_clear_0 rfl rfl ?_
  refine tr_iconst (v := 0) hC dX7_clear_1 (by decide) ?_
  refine tr_puti hC dX7_clear_2 gp_X7_9 sh_104 rfl rfl rfl ?_
  exact tr_vret hC hT dX7_clear_5 ⟨rfl, rfl⟩
def G_X7_add_104 (mem : TMem) (p1 : Int32) : Prop := (¬ (40 ≤ (mem 104 1)) → vp_in (mem 104 1) 40)
def M_X7_add_104 (mem : TMem) (p1 : Int32) : TMem := if 40 ≤ (mem 104 1) then mem else (mset (mset mem 105 (Int32.toNatClampNeg (mem 104 1)) p1) 104 1 ((mem 104 1) + 1))
set_option maxRecDepth 100000 in
theorem C_X7_add_104 (l : Launch) (mem : TMem) (p1 : Int32) (hG : G_X7_add_104 mem p1) : TMv l i_X7_add 0 0 [.inr 104, .inl p1] mem (fun m => m = M_X7_add_104 mem p1) := by
  refine tw_met (by decide) (Nat.le_of_ble_eq_true rfl) (fun κ hl hC hT => ?_)
  subst hl
  unfold G_X7_add_104 at hG
  show WT κ 0 [some (.inr 104), some (.inl p1)] [] mem
  refine tr_aload_n hC dX7_add_0 rfl rfl ?_
  refine tr_gi (v := mem 104 1) hC dX7_add_1 gf_X7_9 sh_104 rfl rfl ?_
  refine tr_aload_n hC dX7_add_4 rfl rfl ?_
  refine tr_getr hC dX7_add_5 gf_X7_21 sh_104 rfl ?_
  refine tr_alen (v := 40) hC dX7_add_8 sh_105 (by decide) ?_
  refine tr_icmp_ge hC dX7_add_9 (tgt := 32) rfl (fun c9 => ?_) (fun c9 => ?_)
  · exact tr_vret hC hT dX7_add_32 ⟨rfl, (by rw [M_X7_add_104, if_pos c9])⟩
  · have hG := hG c9
    refine tr_aload_n hC dX7_add_12 rfl rfl ?_
    refine tr_getr hC dX7_add_13 gf_X7_21 sh_104 rfl ?_
    refine tr_aload_n hC dX7_add_16 rfl rfl ?_
    refine tr_gi (v := mem 104 1) hC dX7_add_17 gf_X7_9 sh_104 rfl rfl ?_
    refine tr_iload_n hC dX7_add_20 rfl rfl ?_
    have g1 := hG
    refine tr_iast hC dX7_add_21 sh_105 g1 ?_
    refine tr_aload_n hC dX7_add_22 rfl rfl ?_
    refine tr_dup hC dX7_add_23 ?_
    refine tr_gi (v := mem 104 1) hC dX7_add_24 gf_X7_9 sh_104 rfl (ms_ne (by decide)) ?_
    refine tr_iconst (v := 1) hC dX7_add_27 (by decide) ?_
    refine tr_iadd hC dX7_add_28 ?_
    refine tr_puti hC dX7_add_29 gp_X7_9 sh_104 rfl rfl rfl ?_
    exact tr_vret hC hT dX7_add_32 ⟨rfl, (by rw [M_X7_add_104, if_neg c9])⟩
def G_X8_endAt_100 (p1 : Int32) : Prop := vp_in p1 41
set_option maxRecDepth 100000 in
theorem C_X8_endAt_100 (l : Launch) (mem : TMem) (p1 : Int32) (hG : G_X8_endAt_100 p1) : TMi l i_X8_endAt 0 0 [.inr 100, .inl p1] mem (fun x m => x = mem 102 p1.toNatClampNeg ∧ m = mem) := by
  refine tw_met (by decide) (Nat.le_of_ble_eq_true rfl) (fun κ hl hC hT => ?_)
  subst hl
  unfold G_X8_endAt_100 at hG
  show WT κ 0 [some (.inr 100), some (.inl p1)] [] mem
  refine tr_aload_n hC dX8_endAt_0 rfl rfl ?_
  refine tr_getr hC dX8_endAt_1 gf_X8_15 sh_100 rfl ?_
  refine tr_iload_n hC dX8_endAt_4 rfl rfl ?_
  have g1 := hG
  refine tr_al (v := mem 102 p1.toNatClampNeg) hC dX8_endAt_5 sh_102 g1 rfl ?_
  exact tr_iret hC hT dX8_endAt_6 ⟨_, rfl, rfl, rfl⟩
def G_X8_start_100 (p1 : Int32) (p2 : Int32) : Prop := vp_in p1 41
set_option maxRecDepth 100000 in
theorem C_X8_start_100 (l : Launch) (mem : TMem) (p1 : Int32) (p2 : Int32) (hG : G_X8_start_100 p1 p2) : TMv l i_X8_start 1 21 [.inr 100, .inl p1, .inl p2] mem (fun m => m = (mset mem 101 p1.toNatClampNeg (imin 1000000 p2))) := by
  refine tw_met (by decide) (Nat.le_of_ble_eq_true rfl) (fun κ hl hC hT => ?_)
  subst hl
  unfold G_X8_start_100 at hG
  show WT κ 0 [some (.inr 100), some (.inl p1), some (.inl p2)] [] mem
  refine tr_aload_n hC dX8_start_0 rfl rfl ?_
  refine tr_getr hC dX8_start_1 gf_X8_9 sh_100 rfl ?_
  refine tr_iload_n hC dX8_start_4 rfl rfl ?_
  refine tr_ldc hC dX8_start_5 lc_X8_21 ?_
  refine tr_iload_n hC dX8_start_7 rfl rfl ?_
  refine tr_min hC dX8_start_8 mm_X8_28 ⟨Nat.le_of_ble_eq_true rfl, Nat.le_of_ble_eq_true rfl⟩ ?_
  have g1 := hG
  refine tr_iast hC dX8_start_11 sh_101 g1 ?_
  exact tr_vret hC hT dX8_start_12 ⟨rfl, rfl⟩
set_option maxRecDepth 100000 in
theorem C_X6_cheapest (l : Launch) (mem : TMem)  : TMi l i_X6_cheapest 0 0 [.inr 40] mem (fun x m => x = mem 40 5 ∧ m = mem) := by
  refine tw_met (by decide) (Nat.le_of_ble_eq_true rfl) (fun κ hl hC hT => ?_)
  subst hl
  show WT κ 0 [some (.inr 40)] [] mem
  refine tr_aload_n hC dX6_cheapest_0 rfl rfl ?_
  refine tr_gi (v := mem 40 5) hC dX6_cheapest_1 gf_X6_40 sh_40 rfl rfl ?_
  exact tr_iret hC hT dX6_cheapest_4 ⟨_, rfl, rfl, rfl⟩
set_option maxRecDepth 100000 in
theorem C_X11_onAt (l : Launch) (mem : TMem) (p1 : Int32) (p2 : Int32) (p3 : Int32) : TMi l i_X11_onAt 0 0 [.inl p1, .inl p2, .inl p3] mem (fun x m => x = (((41 * p1) + p2) * 41) + p3 ∧ m = mem) := by
  refine tw_met (by decide) (Nat.le_of_ble_eq_true rfl) (fun κ hl hC hT => ?_)
  subst hl
  show WT κ 0 [some (.inl p1), some (.inl p2), some (.inl p3)] [] mem
  refine tr_bipush (v := 41) hC dX11_onAt_0 (by decide) ?_
  refine tr_iload_n hC dX11_onAt_2 rfl rfl ?_
  refine tr_imul hC dX11_onAt_3 ?_
  refine tr_iload_n hC dX11_onAt_4 rfl rfl ?_
  refine tr_iadd hC dX11_onAt_5 ?_
  refine tr_bipush (v := 41) hC dX11_onAt_6 (by decide) ?_
  refine tr_imul hC dX11_onAt_8 ?_
  refine tr_iload_n hC dX11_onAt_9 rfl rfl ?_
  refine tr_iadd hC dX11_onAt_10 ?_
  exact tr_iret hC hT dX11_onAt_11 ⟨_, rfl, rfl, rfl⟩
def F_X11_lesser (p1 : Int32) (p2 : Int32) : Int32 := if p2 ≤ p1 then p2 else p1
set_option maxRecDepth 100000 in
theorem C_X11_lesser (l : Launch) (mem : TMem) (p1 : Int32) (p2 : Int32) : TMi l i_X11_lesser 0 0 [.inl p1, .inl p2] mem (fun x m => x = F_X11_lesser p1 p2 ∧ m = mem) := by
  refine tw_met (by decide) (Nat.le_of_ble_eq_true rfl) (fun κ hl hC hT => ?_)
  subst hl
  show WT κ 0 [some (.inl p1), some (.inl p2)] [] mem
  refine tr_iload_n hC dX11_lesser_0 rfl rfl ?_
  refine tr_iload_n hC dX11_lesser_1 rfl rfl ?_
  refine tr_icmp_ge hC dX11_lesser_2 (tgt := 9) rfl (fun c2 => ?_) (fun c2 => ?_)
  · refine tr_iload_n hC dX11_lesser_9 rfl rfl ?_
    exact tr_iret hC hT dX11_lesser_10 ⟨_, rfl, (by rw [F_X11_lesser, if_pos c2]), rfl⟩
  · refine tr_iload_n hC dX11_lesser_5 rfl rfl ?_
    refine tr_goto hC dX11_lesser_6 (tgt := 10) rfl ?_
    exact tr_iret hC hT dX11_lesser_10 ⟨_, rfl, (by rw [F_X11_lesser, if_neg c2]), rfl⟩
def G_X11_costOf (mem : TMem) (p1 : Int32) (p2 : Int32) : Prop := vp_in p2 40 ∧ ((¬ ((mem 188 p2.toNatClampNeg) = (-1)) → (vp_in ((8 * p1) + (mem 188 p2.toNatClampNeg)) 48)))
def F_X11_costOf (mem : TMem) (p1 : Int32) (p2 : Int32) : Int32 := if (mem 188 p2.toNatClampNeg) = (-1) then 10 else mem 189 (Int32.toNatClampNeg ((8 * p1) + (mem 188 p2.toNatClampNeg)))
set_option maxRecDepth 100000 in
theorem C_X11_costOf (l : Launch) (mem : TMem) (p1 : Int32) (p2 : Int32) (hG : G_X11_costOf mem p1 p2) : TMi l i_X11_costOf 0 0 [.inr 187, .inl p1, .inl p2] mem (fun x m => x = F_X11_costOf mem p1 p2 ∧ m = mem) := by
  refine tw_met (by decide) (Nat.le_of_ble_eq_true rfl) (fun κ hl hC hT => ?_)
  subst hl
  unfold G_X11_costOf at hG
  show WT κ 0 [some (.inr 187), some (.inl p1), some (.inl p2)] [] mem
  refine tr_aload_n hC dX11_costOf_0 rfl rfl ?_
  refine tr_getr hC dX11_costOf_1 gf_X11_7 sh_187 rfl ?_
  refine tr_iload_n hC dX11_costOf_4 rfl rfl ?_
  obtain ⟨g1, hG⟩ := hG
  refine tr_al (v := mem 188 p2.toNatClampNeg) hC dX11_costOf_5 sh_188 g1 rfl ?_
  refine tr_iconst (v := (-1)) hC dX11_costOf_6 (by decide) ?_
  refine tr_icmp_ne hC dX11_costOf_7 (tgt := 15) rfl (fun c7 => ?_) (fun c7 => ?_)
  · have hG := hG c7
    refine tr_aload_n hC dX11_costOf_15 rfl rfl ?_
    refine tr_getr hC dX11_costOf_16 gf_X11_13 sh_187 rfl ?_
    refine tr_bipush (v := 8) hC dX11_costOf_19 (by decide) ?_
    refine tr_iload_n hC dX11_costOf_21 rfl rfl ?_
    refine tr_imul hC dX11_costOf_22 ?_
    refine tr_aload_n hC dX11_costOf_23 rfl rfl ?_
    refine tr_getr hC dX11_costOf_24 gf_X11_7 sh_187 rfl ?_
    refine tr_iload_n hC dX11_costOf_27 rfl rfl ?_
    refine tr_al (v := mem 188 p2.toNatClampNeg) hC dX11_costOf_28 sh_188 g1 rfl ?_
    refine tr_iadd hC dX11_costOf_29 ?_
    have g2 := hG
    refine tr_al (v := mem 189 (Int32.toNatClampNeg ((8 * p1) + (mem 188 p2.toNatClampNeg)))) hC dX11_costOf_30 sh_189 g2 rfl ?_
    exact tr_iret hC hT dX11_costOf_31 ⟨_, rfl, (by rw [F_X11_costOf, if_neg c7]), rfl⟩
  · refine tr_bipush (v := 10) hC dX11_costOf_10 (by decide) ?_
    refine tr_goto hC dX11_costOf_12 (tgt := 31) rfl ?_
    exact tr_iret hC hT dX11_costOf_31 ⟨_, rfl, (by rw [F_X11_costOf, if_pos c7]), rfl⟩
def G_X11_restAt (p1 : Int32) (p2 : Int32) : Prop := (p2 = (-1) → (vp_in ((9 * p1) + 8) 369)) ∧ (¬ (p2 = (-1)) → (vp_in ((9 * p1) + p2) 369))
def F_X11_restAt (mem : TMem) (p1 : Int32) (p2 : Int32) : Int32 := if p2 = (-1) then mem 204 (Int32.toNatClampNeg ((9 * p1) + 8)) else mem 204 (Int32.toNatClampNeg ((9 * p1) + p2))
set_option maxRecDepth 100000 in
theorem C_X11_restAt (l : Launch) (mem : TMem) (p1 : Int32) (p2 : Int32) (hG : G_X11_restAt p1 p2) : TMi l i_X11_restAt 0 0 [.inr 187, .inl p1, .inl p2] mem (fun x m => x = F_X11_restAt mem p1 p2 ∧ m = mem) := by
  refine tw_met (by decide) (Nat.le_of_ble_eq_true rfl) (fun κ hl hC hT => ?_)
  subst hl
  unfold G_X11_restAt at hG
  show WT κ 0 [some (.inr 187), some (.inl p1), some (.inl p2)] [] mem
  refine tr_aload_n hC dX11_restAt_0 rfl rfl ?_
  refine tr_getr hC dX11_restAt_1 gf_X11_71 sh_187 rfl ?_
  refine tr_bipush (v := 9) hC dX11_restAt_4 (by decide) ?_
  refine tr_iload_n hC dX11_restAt_6 rfl rfl ?_
  refine tr_imul hC dX11_restAt_7 ?_
  refine tr_iload_n hC dX11_restAt_8 rfl rfl ?_
  refine tr_iconst (v := (-1)) hC dX11_restAt_9 (by decide) ?_
  refine tr_icmp_ne hC dX11_restAt_10 (tgt := 18) rfl (fun c10 => ?_) (fun c10 => ?_)
  · have hG := hG.2 c10
    refine tr_iload_n hC dX11_restAt_18 rfl rfl ?_
    refine tr_iadd hC dX11_restAt_19 ?_
    have g1 := hG
    refine tr_al (v := mem 204 (Int32.toNatClampNeg ((9 * p1) + p2))) hC dX11_restAt_20 sh_204 g1 rfl ?_
    exact tr_iret hC hT dX11_restAt_21 ⟨_, rfl, (by rw [F_X11_restAt, if_neg c10]), rfl⟩
  · have hG := hG.1 c10
    refine tr_bipush (v := 8) hC dX11_restAt_13 (by decide) ?_
    refine tr_goto hC dX11_restAt_15 (tgt := 19) rfl ?_
    refine tr_iadd hC dX11_restAt_19 ?_
    have g2 := hG
    refine tr_al (v := mem 204 (Int32.toNatClampNeg ((9 * p1) + 8))) hC dX11_restAt_20 sh_204 g2 rfl ?_
    exact tr_iret hC hT dX11_restAt_21 ⟨_, rfl, (by rw [F_X11_restAt, if_pos c10]), rfl⟩
set_option maxRecDepth 100000 in
theorem C_X6_row (l : Launch) (mem : TMem)  : TMr l i_X6_row 0 0 [.inr 40] mem (fun x m => x = 104 ∧ m = mem) := by
  refine tw_met (by decide) (Nat.le_of_ble_eq_true rfl) (fun κ hl hC hT => ?_)
  subst hl
  show WT κ 0 [some (.inr 40)] [] mem
  refine tr_aload_n hC dX6_row_0 rfl rfl ?_
  refine tr_getr hC dX6_row_1 gf_X6_35 sh_40 rfl ?_
  exact tr_aret hC hT dX6_row_4 (Or.inl ⟨_, rfl⟩) ⟨_, rfl, rfl, rfl⟩
set_option maxRecDepth 100000 in
theorem C_X7_size_104 (l : Launch) (mem : TMem)  : TMi l i_X7_size 0 0 [.inr 104] mem (fun x m => x = mem 104 1 ∧ m = mem) := by
  refine tw_met (by decide) (Nat.le_of_ble_eq_true rfl) (fun κ hl hC hT => ?_)
  subst hl
  show WT κ 0 [some (.inr 104)] [] mem
  refine tr_aload_n hC dX7_size_0 rfl rfl ?_
  refine tr_gi (v := mem 104 1) hC dX7_size_1 gf_X7_9 sh_104 rfl rfl ?_
  exact tr_iret hC hT dX7_size_4 ⟨_, rfl, rfl, rfl⟩
def G_X7_at_104 (mem : TMem) (p1 : Int32) : Prop := (¬ (p1 < 0) → ((¬ ((mem 104 1) ≤ p1) → vp_in p1 40)))
def F_X7_at_104 (mem : TMem) (p1 : Int32) : Int32 := if p1 < 0 then (-1) else if (mem 104 1) ≤ p1 then (-1) else mem 105 p1.toNatClampNeg
set_option maxRecDepth 100000 in
theorem C_X7_at_104 (l : Launch) (mem : TMem) (p1 : Int32) (hG : G_X7_at_104 mem p1) : TMi l i_X7_at 0 0 [.inr 104, .inl p1] mem (fun x m => x = F_X7_at_104 mem p1 ∧ m = mem) := by
  refine tw_met (by decide) (Nat.le_of_ble_eq_true rfl) (fun κ hl hC hT => ?_)
  subst hl
  unfold G_X7_at_104 at hG
  show WT κ 0 [some (.inr 104), some (.inl p1)] [] mem
  refine tr_iload_n hC dX7_at_0 rfl rfl ?_
  refine tr_if_lt hC dX7_at_1 (tgt := 21) rfl (fun c1 => ?_) (fun c1 => ?_)
  · refine tr_iconst (v := (-1)) hC dX7_at_21 (by decide) ?_
    exact tr_iret hC hT dX7_at_22 ⟨_, rfl, (by rw [F_X7_at_104, if_pos c1]), rfl⟩
  · have hG := hG c1
    refine tr_iload_n hC dX7_at_4 rfl rfl ?_
    refine tr_aload_n hC dX7_at_5 rfl rfl ?_
    refine tr_gi (v := mem 104 1) hC dX7_at_6 gf_X7_9 sh_104 rfl rfl ?_
    refine tr_icmp_ge hC dX7_at_9 (tgt := 21) rfl (fun c9 => ?_) (fun c9 => ?_)
    · refine tr_iconst (v := (-1)) hC dX7_at_21 (by decide) ?_
      exact tr_iret hC hT dX7_at_22 ⟨_, rfl, (by rw [F_X7_at_104, if_neg c1, if_pos c9]), rfl⟩
    · have hG := hG c9
      refine tr_aload_n hC dX7_at_12 rfl rfl ?_
      refine tr_getr hC dX7_at_13 gf_X7_21 sh_104 rfl ?_
      refine tr_iload_n hC dX7_at_16 rfl rfl ?_
      have g1 := hG
      refine tr_al (v := mem 105 p1.toNatClampNeg) hC dX7_at_17 sh_105 g1 rfl ?_
      refine tr_goto hC dX7_at_18 (tgt := 22) rfl ?_
      exact tr_iret hC hT dX7_at_22 ⟨_, rfl, (by rw [F_X7_at_104, if_neg c1, if_neg c9]), rfl⟩
set_option maxRecDepth 100000 in
theorem C_X7_size_106 (l : Launch) (mem : TMem)  : TMi l i_X7_size 0 0 [.inr 106] mem (fun x m => x = mem 106 1 ∧ m = mem) := by
  refine tw_met (by decide) (Nat.le_of_ble_eq_true rfl) (fun κ hl hC hT => ?_)
  subst hl
  show WT κ 0 [some (.inr 106)] [] mem
  refine tr_aload_n hC dX7_size_0 rfl rfl ?_
  refine tr_gi (v := mem 106 1) hC dX7_size_1 gf_X7_9 sh_106 rfl rfl ?_
  exact tr_iret hC hT dX7_size_4 ⟨_, rfl, rfl, rfl⟩
def G_X7_add_106 (mem : TMem) (p1 : Int32) : Prop := (¬ (12 ≤ (mem 106 1)) → vp_in (mem 106 1) 12)
def M_X7_add_106 (mem : TMem) (p1 : Int32) : TMem := if 12 ≤ (mem 106 1) then mem else (mset (mset mem 107 (Int32.toNatClampNeg (mem 106 1)) p1) 106 1 ((mem 106 1) + 1))
set_option maxRecDepth 100000 in
theorem C_X7_add_106 (l : Launch) (mem : TMem) (p1 : Int32) (hG : G_X7_add_106 mem p1) : TMv l i_X7_add 0 0 [.inr 106, .inl p1] mem (fun m => m = M_X7_add_106 mem p1) := by
  refine tw_met (by decide) (Nat.le_of_ble_eq_true rfl) (fun κ hl hC hT => ?_)
  subst hl
  unfold G_X7_add_106 at hG
  show WT κ 0 [some (.inr 106), some (.inl p1)] [] mem
  refine tr_aload_n hC dX7_add_0 rfl rfl ?_
  refine tr_gi (v := mem 106 1) hC dX7_add_1 gf_X7_9 sh_106 rfl rfl ?_
  refine tr_aload_n hC dX7_add_4 rfl rfl ?_
  refine tr_getr hC dX7_add_5 gf_X7_21 sh_106 rfl ?_
  refine tr_alen (v := 12) hC dX7_add_8 sh_107 (by decide) ?_
  refine tr_icmp_ge hC dX7_add_9 (tgt := 32) rfl (fun c9 => ?_) (fun c9 => ?_)
  · exact tr_vret hC hT dX7_add_32 ⟨rfl, (by rw [M_X7_add_106, if_pos c9])⟩
  · have hG := hG c9
    refine tr_aload_n hC dX7_add_12 rfl rfl ?_
    refine tr_getr hC dX7_add_13 gf_X7_21 sh_106 rfl ?_
    refine tr_aload_n hC dX7_add_16 rfl rfl ?_
    refine tr_gi (v := mem 106 1) hC dX7_add_17 gf_X7_9 sh_106 rfl rfl ?_
    refine tr_iload_n hC dX7_add_20 rfl rfl ?_
    have g1 := hG
    refine tr_iast hC dX7_add_21 sh_107 g1 ?_
    refine tr_aload_n hC dX7_add_22 rfl rfl ?_
    refine tr_dup hC dX7_add_23 ?_
    refine tr_gi (v := mem 106 1) hC dX7_add_24 gf_X7_9 sh_106 rfl (ms_ne (by decide)) ?_
    refine tr_iconst (v := 1) hC dX7_add_27 (by decide) ?_
    refine tr_iadd hC dX7_add_28 ?_
    refine tr_puti hC dX7_add_29 gp_X7_9 sh_106 rfl rfl rfl ?_
    exact tr_vret hC hT dX7_add_32 ⟨rfl, (by rw [M_X7_add_106, if_neg c9])⟩
def G_X10_say (mem : TMem) (p1 : Int32) : Prop := (¬ ((F_X10_within p1 0 ((mem 10 4) - 1)) = 0) → (((mem 106 1) < 12 → G_X7_add_106 (mset mem 108 5 0) p1)))
def F_X10_say (mem : TMem) (p1 : Int32) : Int32 := if (F_X10_within p1 0 ((mem 10 4) - 1)) = 0 then (-2) else if (mem 106 1) < 12 then (M_X7_add_106 (mset mem 108 5 0) p1) 106 1 else (-4)
def M_X10_say (mem : TMem) (p1 : Int32) : TMem := if (F_X10_within p1 0 ((mem 10 4) - 1)) = 0 then mem else if (mem 106 1) < 12 then (M_X7_add_106 (mset mem 108 5 0) p1) else mem
set_option maxRecDepth 100000 in
theorem C_X10_say (l : Launch) (mem : TMem) (p1 : Int32) (hG : G_X10_say mem p1) : TMi l i_X10_say 2 43 [.inr 0, .inl p1] mem (fun x m => x = F_X10_say mem p1 ∧ m = M_X10_say mem p1) := by
  refine tw_met (by decide) (Nat.le_of_ble_eq_true rfl) (fun κ hl hC hT => ?_)
  subst hl
  unfold G_X10_say at hG
  show WT κ 0 [some (.inr 0), some (.inl p1)] [] mem
  refine tr_aload_n hC dX10_say_0 rfl rfl ?_
  refine tr_iload_n hC dX10_say_1 rfl rfl ?_
  refine tr_xVi (As := [.inl p1]) (fr2 := 1) (lo2 := 22) hC dX10_say_2 mc_X10_126 mv_X10_isWord sh_0 rfl ⟨Nat.le_of_ble_eq_true rfl, Nat.le_of_ble_eq_true rfl, Nat.le_of_ble_eq_true rfl⟩ rfl (C_X10_isWord _ mem p1) ?_
  refine tr_if_ne hC dX10_say_5 (tgt := 11) rfl (fun c5 => ?_) (fun c5 => ?_)
  · have hG := hG c5
    refine tr_aload_n hC dX10_say_11 rfl rfl ?_
    refine tr_getr hC dX10_say_12 gf_X10_35 sh_0 rfl ?_
    refine tr_xVi (As := []) (fr2 := 0) (lo2 := 0) hC dX10_say_15 mc_X10_153 mv_X7_size sh_106 rfl ⟨Nat.le_of_ble_eq_true rfl, Nat.le_of_ble_eq_true rfl, Nat.le_of_ble_eq_true rfl⟩ rfl (C_X7_size_106 _ mem ) ?_
    refine tr_bipush (v := 12) hC dX10_say_18 (by decide) ?_
    refine tr_icmp_lt hC dX10_say_20 (tgt := 26) rfl (fun c20 => ?_) (fun c20 => ?_)
    · have hG := hG c20
      refine tr_aload_n hC dX10_say_26 rfl rfl ?_
      refine tr_getr hC dX10_say_27 gf_X10_42 sh_0 rfl ?_
      refine tr_xVv (As := []) (fr2 := 0) (lo2 := 0) hC dX10_say_30 mc_X10_164 mv_X3_end sh_108 rfl ⟨Nat.le_of_ble_eq_true rfl, Nat.le_of_ble_eq_true rfl, Nat.le_of_ble_eq_true rfl⟩ rfl (C_X3_end _ mem ) ?_
      refine tr_aload_n hC dX10_say_33 rfl rfl ?_
      refine tr_getr hC dX10_say_34 gf_X10_35 sh_0 rfl ?_
      refine tr_iload_n hC dX10_say_37 rfl rfl ?_
      have g1 := hG
      refine tr_xVv (As := [.inl p1]) (fr2 := 0) (lo2 := 0) hC dX10_say_38 mc_X10_167 mv_X7_add sh_106 rfl ⟨Nat.le_of_ble_eq_true rfl, Nat.le_of_ble_eq_true rfl, Nat.le_of_ble_eq_true rfl⟩ rfl (C_X7_add_106 _ (mset mem 108 5 0) p1 g1) ?_
      refine tr_aload_n hC dX10_say_41 rfl rfl ?_
      refine tr_getr hC dX10_say_42 gf_X10_35 sh_0 rfl ?_
      refine tr_xVi (As := []) (fr2 := 0) (lo2 := 0) hC dX10_say_45 mc_X10_153 mv_X7_size sh_106 rfl ⟨Nat.le_of_ble_eq_true rfl, Nat.le_of_ble_eq_true rfl, Nat.le_of_ble_eq_true rfl⟩ rfl (C_X7_size_106 _ (M_X7_add_106 (mset mem 108 5 0) p1) ) ?_
      exact tr_iret hC hT dX10_say_48 ⟨_, rfl, (by rw [F_X10_say, if_neg c5, if_pos c20]), (by rw [M_X10_say, if_neg c5, if_pos c20])⟩
    · refine tr_bipush (v := (-4)) hC dX10_say_23 (by decide) ?_
      exact tr_iret hC hT dX10_say_25 ⟨_, rfl, (by rw [F_X10_say, if_neg c5, if_neg c20]), (by rw [M_X10_say, if_neg c5, if_neg c20])⟩
  · refine tr_bipush (v := (-2)) hC dX10_say_8 (by decide) ?_
    exact tr_iret hC hT dX10_say_10 ⟨_, rfl, (by rw [F_X10_say, if_pos c5]), (by rw [M_X10_say, if_pos c5])⟩
def G_X11_say (mem : TMem) (p1 : Int32) : Prop := (¬ ((F_X11_in p1 0 ((mem 187 4) - 1)) = 0) → ((¬ ((mem 187 9) = 12) → vp_in (mem 187 9) 12)))
def F_X11_say (mem : TMem) (p1 : Int32) : Int32 := if (F_X11_in p1 0 ((mem 187 4) - 1)) = 0 then (-2) else if (mem 187 9) = 12 then (-4) else (mem 187 9) + 1
def M_X11_say (mem : TMem) (p1 : Int32) : TMem := if (F_X11_in p1 0 ((mem 187 4) - 1)) = 0 then mem else if (mem 187 9) = 12 then mem else (mset (mset (mset mem 194 (Int32.toNatClampNeg (mem 187 9)) p1) 187 9 ((mem 187 9) + 1)) 187 11 0)
set_option maxRecDepth 100000 in
theorem C_X11_say (l : Launch) (mem : TMem) (p1 : Int32) (hG : G_X11_say mem p1) : TMi l i_X11_say 2 43 [.inr 187, .inl p1] mem (fun x m => x = F_X11_say mem p1 ∧ m = M_X11_say mem p1) := by
  refine tw_met (by decide) (Nat.le_of_ble_eq_true rfl) (fun κ hl hC hT => ?_)
  subst hl
  unfold G_X11_say at hG
  show WT κ 0 [some (.inr 187), some (.inl p1)] [] mem
  refine tr_aload_n hC dX11_say_0 rfl rfl ?_
  refine tr_iload_n hC dX11_say_1 rfl rfl ?_
  refine tr_xVi (As := [.inl p1]) (fr2 := 1) (lo2 := 22) hC dX11_say_2 mc_X11_111 mv_X11_isWord sh_187 rfl ⟨Nat.le_of_ble_eq_true rfl, Nat.le_of_ble_eq_true rfl, Nat.le_of_ble_eq_true rfl⟩ rfl (C_X11_isWord _ mem p1) ?_
  refine tr_if_ne hC dX11_say_5 (tgt := 11) rfl (fun c5 => ?_) (fun c5 => ?_)
  · have hG := hG c5
    refine tr_aload_n hC dX11_say_11 rfl rfl ?_
    refine tr_gi (v := mem 187 9) hC dX11_say_12 gf_X11_160 sh_187 rfl rfl ?_
    refine tr_bipush (v := 12) hC dX11_say_15 (by decide) ?_
    refine tr_icmp_ne hC dX11_say_17 (tgt := 23) rfl (fun c17 => ?_) (fun c17 => ?_)
    · have hG := hG c17
      refine tr_aload_n hC dX11_say_23 rfl rfl ?_
      refine tr_getr hC dX11_say_24 gf_X11_32 sh_187 rfl ?_
      refine tr_aload_n hC dX11_say_27 rfl rfl ?_
      refine tr_gi (v := mem 187 9) hC dX11_say_28 gf_X11_160 sh_187 rfl rfl ?_
      refine tr_iload_n hC dX11_say_31 rfl rfl ?_
      have g1 := hG
      refine tr_iast hC dX11_say_32 sh_194 g1 ?_
      refine tr_aload_n hC dX11_say_33 rfl rfl ?_
      refine tr_dup hC dX11_say_34 ?_
      refine tr_gi (v := mem 187 9) hC dX11_say_35 gf_X11_160 sh_187 rfl (ms_ne (by decide)) ?_
      refine tr_iconst (v := 1) hC dX11_say_38 (by decide) ?_
      refine tr_iadd hC dX11_say_39 ?_
      refine tr_puti hC dX11_say_40 gp_X11_160 sh_187 rfl rfl rfl ?_
      refine tr_aload_n hC dX11_say_43 rfl rfl ?_
      refine tr_iconst (v := 0) hC dX11_say_44 (by decide) ?_
      refine tr_puti hC dX11_say_45 gp_X11_96 sh_187 rfl (by decide) (by decide) ?_
      refine tr_aload_n hC dX11_say_48 rfl rfl ?_
      refine tr_gi (v := (mem 187 9) + 1) hC dX11_say_49 gf_X11_160 sh_187 rfl ((ms_sl (by decide)).trans (ms_eq)) ?_
      exact tr_iret hC hT dX11_say_52 ⟨_, rfl, (by rw [F_X11_say, if_neg c5, if_neg c17]), (by rw [M_X11_say, if_neg c5, if_neg c17])⟩
    · refine tr_bipush (v := (-4)) hC dX11_say_20 (by decide) ?_
      exact tr_iret hC hT dX11_say_22 ⟨_, rfl, (by rw [F_X11_say, if_neg c5, if_pos c17]), (by rw [M_X11_say, if_neg c5, if_pos c17])⟩
  · refine tr_bipush (v := (-2)) hC dX11_say_8 (by decide) ?_
    exact tr_iret hC hT dX11_say_10 ⟨_, rfl, (by rw [F_X11_say, if_pos c5]), (by rw [M_X11_say, if_pos c5])⟩
set_option maxRecDepth 100000 in
theorem C_X7_clear_106 (l : Launch) (mem : TMem)  : TMv l i_X7_clear 0 0 [.inr 106] mem (fun m => m = (mset mem 106 1 0)) := by
  refine tw_met (by decide) (Nat.le_of_ble_eq_true rfl) (fun κ hl hC hT => ?_)
  subst hl
  show WT κ 0 [some (.inr 106)] [] mem
  refine tr_aload_n hC dX7_clear_0 rfl rfl ?_
  refine tr_iconst (v := 0) hC dX7_clear_1 (by decide) ?_
  refine tr_puti hC dX7_clear_2 gp_X7_9 sh_106 rfl rfl rfl ?_
  exact tr_vret hC hT dX7_clear_5 ⟨rfl, rfl⟩
set_option maxRecDepth 100000 in
theorem C_X10_unsay (l : Launch) (mem : TMem)  : TMi l i_X10_unsay 1 20 [.inr 0] mem (fun x m => x = mem 106 1 ∧ m = (mset (mset mem 108 5 0) 106 1 0)) := by
  refine tw_met (by decide) (Nat.le_of_ble_eq_true rfl) (fun κ hl hC hT => ?_)
  subst hl
  show WT κ 0 [some (.inr 0), none] [] mem
  refine tr_aload_n hC dX10_unsay_0 rfl rfl ?_
  refine tr_getr hC dX10_unsay_1 gf_X10_35 sh_0 rfl ?_
  refine tr_xVi (As := []) (fr2 := 0) (lo2 := 0) hC dX10_unsay_4 mc_X10_153 mv_X7_size sh_106 rfl ⟨Nat.le_of_ble_eq_true rfl, Nat.le_of_ble_eq_true rfl, Nat.le_of_ble_eq_true rfl⟩ rfl (C_X7_size_106 _ mem ) ?_
  refine tr_istore_n (loc2 := [some (.inr 0), some (.inl (mem 106 1))]) hC dX10_unsay_7 rfl (by decide) rfl ?_
  refine tr_aload_n hC dX10_unsay_8 rfl rfl ?_
  refine tr_getr hC dX10_unsay_9 gf_X10_42 sh_0 rfl ?_
  refine tr_xVv (As := []) (fr2 := 0) (lo2 := 0) hC dX10_unsay_12 mc_X10_164 mv_X3_end sh_108 rfl ⟨Nat.le_of_ble_eq_true rfl, Nat.le_of_ble_eq_true rfl, Nat.le_of_ble_eq_true rfl⟩ rfl (C_X3_end _ mem ) ?_
  refine tr_aload_n hC dX10_unsay_15 rfl rfl ?_
  refine tr_getr hC dX10_unsay_16 gf_X10_35 sh_0 rfl ?_
  refine tr_xVv (As := []) (fr2 := 0) (lo2 := 0) hC dX10_unsay_19 mc_X10_168 mv_X7_clear sh_106 rfl ⟨Nat.le_of_ble_eq_true rfl, Nat.le_of_ble_eq_true rfl, Nat.le_of_ble_eq_true rfl⟩ rfl (C_X7_clear_106 _ (mset mem 108 5 0) ) ?_
  refine tr_iload_n hC dX10_unsay_22 rfl rfl ?_
  exact tr_iret hC hT dX10_unsay_23 ⟨_, rfl, rfl, rfl⟩
set_option maxRecDepth 100000 in
theorem C_X11_unsay (l : Launch) (mem : TMem)  : TMi l i_X11_unsay 0 0 [.inr 187] mem (fun x m => x = mem 187 9 ∧ m = (mset (mset mem 187 9 0) 187 11 0)) := by
  refine tw_met (by decide) (Nat.le_of_ble_eq_true rfl) (fun κ hl hC hT => ?_)
  subst hl
  show WT κ 0 [some (.inr 187), none] [] mem
  refine tr_aload_n hC dX11_unsay_0 rfl rfl ?_
  refine tr_gi (v := mem 187 9) hC dX11_unsay_1 gf_X11_160 sh_187 rfl rfl ?_
  refine tr_istore_n (loc2 := [some (.inr 187), some (.inl (mem 187 9))]) hC dX11_unsay_4 rfl (by decide) rfl ?_
  refine tr_aload_n hC dX11_unsay_5 rfl rfl ?_
  refine tr_iconst (v := 0) hC dX11_unsay_6 (by decide) ?_
  refine tr_puti hC dX11_unsay_7 gp_X11_160 sh_187 rfl rfl rfl ?_
  refine tr_aload_n hC dX11_unsay_10 rfl rfl ?_
  refine tr_iconst (v := 0) hC dX11_unsay_11 (by decide) ?_
  refine tr_puti hC dX11_unsay_12 gp_X11_96 sh_187 rfl (by decide) (by decide) ?_
  refine tr_iload_n hC dX11_unsay_15 rfl rfl ?_
  exact tr_iret hC hT dX11_unsay_16 ⟨_, rfl, rfl, rfl⟩
def G_X7_at_106 (mem : TMem) (p1 : Int32) : Prop := (¬ (p1 < 0) → ((¬ ((mem 106 1) ≤ p1) → vp_in p1 12)))
def F_X7_at_106 (mem : TMem) (p1 : Int32) : Int32 := if p1 < 0 then (-1) else if (mem 106 1) ≤ p1 then (-1) else mem 107 p1.toNatClampNeg
set_option maxRecDepth 100000 in
theorem C_X7_at_106 (l : Launch) (mem : TMem) (p1 : Int32) (hG : G_X7_at_106 mem p1) : TMi l i_X7_at 0 0 [.inr 106, .inl p1] mem (fun x m => x = F_X7_at_106 mem p1 ∧ m = mem) := by
  refine tw_met (by decide) (Nat.le_of_ble_eq_true rfl) (fun κ hl hC hT => ?_)
  subst hl
  unfold G_X7_at_106 at hG
  show WT κ 0 [some (.inr 106), some (.inl p1)] [] mem
  refine tr_iload_n hC dX7_at_0 rfl rfl ?_
  refine tr_if_lt hC dX7_at_1 (tgt := 21) rfl (fun c1 => ?_) (fun c1 => ?_)
  · refine tr_iconst (v := (-1)) hC dX7_at_21 (by decide) ?_
    exact tr_iret hC hT dX7_at_22 ⟨_, rfl, (by rw [F_X7_at_106, if_pos c1]), rfl⟩
  · have hG := hG c1
    refine tr_iload_n hC dX7_at_4 rfl rfl ?_
    refine tr_aload_n hC dX7_at_5 rfl rfl ?_
    refine tr_gi (v := mem 106 1) hC dX7_at_6 gf_X7_9 sh_106 rfl rfl ?_
    refine tr_icmp_ge hC dX7_at_9 (tgt := 21) rfl (fun c9 => ?_) (fun c9 => ?_)
    · refine tr_iconst (v := (-1)) hC dX7_at_21 (by decide) ?_
      exact tr_iret hC hT dX7_at_22 ⟨_, rfl, (by rw [F_X7_at_106, if_neg c1, if_pos c9]), rfl⟩
    · have hG := hG c9
      refine tr_aload_n hC dX7_at_12 rfl rfl ?_
      refine tr_getr hC dX7_at_13 gf_X7_21 sh_106 rfl ?_
      refine tr_iload_n hC dX7_at_16 rfl rfl ?_
      have g1 := hG
      refine tr_al (v := mem 107 p1.toNatClampNeg) hC dX7_at_17 sh_107 g1 rfl ?_
      refine tr_goto hC dX7_at_18 (tgt := 22) rfl ?_
      exact tr_iret hC hT dX7_at_22 ⟨_, rfl, (by rw [F_X7_at_106, if_neg c1, if_neg c9]), rfl⟩
def G_X3_hasSoundBehind (p1 : Int32) : Prop := (¬ (4 ≤ ((p1 - p1 / 4 * 4) + 1)) → (vp_in (p1 + 1) 96))
def F_X3_hasSoundBehind (mem : TMem) (p1 : Int32) : Int32 := if 4 ≤ ((p1 - p1 / 4 * 4) + 1) then 0 else if (mem 109 (Int32.toNatClampNeg (p1 + 1))) = (-1) then 0 else 1
theorem B_X3_hasSoundBehind (mem : TMem) (p1 : Int32) : F_X3_hasSoundBehind mem p1 = 0 ∨ F_X3_hasSoundBehind mem p1 = 1 := by
  unfold F_X3_hasSoundBehind
  repeat (first | (split) | (exact Or.inl rfl) | (exact Or.inr rfl))
set_option maxRecDepth 100000 in
theorem C_X3_hasSoundBehind (l : Launch) (mem : TMem) (p1 : Int32) (hG : G_X3_hasSoundBehind p1) : TMi l i_X3_hasSoundBehind 0 0 [.inr 108, .inl p1] mem (fun x m => x = F_X3_hasSoundBehind mem p1 ∧ m = mem) := by
  refine tw_met (by decide) (Nat.le_of_ble_eq_true rfl) (fun κ hl hC hT => ?_)
  subst hl
  unfold G_X3_hasSoundBehind at hG
  show WT κ 0 [some (.inr 108), some (.inl p1)] [] mem
  refine tr_iload_n hC dX3_hasSoundBehind_0 rfl rfl ?_
  refine tr_iconst (v := 4) hC dX3_hasSoundBehind_1 (by decide) ?_
  refine tr_irem hC dX3_hasSoundBehind_2 (by decide) ?_
  refine tr_iconst (v := 1) hC dX3_hasSoundBehind_3 (by decide) ?_
  refine tr_iadd hC dX3_hasSoundBehind_4 ?_
  refine tr_iconst (v := 4) hC dX3_hasSoundBehind_5 (by decide) ?_
  refine tr_icmp_ge hC dX3_hasSoundBehind_6 (tgt := 25) rfl (fun c6 => ?_) (fun c6 => ?_)
  · refine tr_iconst (v := 0) hC dX3_hasSoundBehind_25 (by decide) ?_
    exact tr_zret hC hT dX3_hasSoundBehind_26 (nar_b (by decide)) ⟨_, rfl, (by rw [F_X3_hasSoundBehind, if_pos c6]), rfl⟩
  · have hG := hG c6
    refine tr_aload_n hC dX3_hasSoundBehind_9 rfl rfl ?_
    refine tr_getr hC dX3_hasSoundBehind_10 gf_X3_11 sh_108 rfl ?_
    refine tr_iload_n hC dX3_hasSoundBehind_13 rfl rfl ?_
    refine tr_iconst (v := 1) hC dX3_hasSoundBehind_14 (by decide) ?_
    refine tr_iadd hC dX3_hasSoundBehind_15 ?_
    have g1 := hG
    refine tr_al (v := mem 109 (Int32.toNatClampNeg (p1 + 1))) hC dX3_hasSoundBehind_16 sh_109 g1 rfl ?_
    refine tr_iconst (v := (-1)) hC dX3_hasSoundBehind_17 (by decide) ?_
    refine tr_icmp_eq hC dX3_hasSoundBehind_18 (tgt := 25) rfl (fun c18 => ?_) (fun c18 => ?_)
    · refine tr_iconst (v := 0) hC dX3_hasSoundBehind_25 (by decide) ?_
      exact tr_zret hC hT dX3_hasSoundBehind_26 (nar_b (by decide)) ⟨_, rfl, (by rw [F_X3_hasSoundBehind, if_neg c6, if_pos c18]), rfl⟩
    · refine tr_iconst (v := 1) hC dX3_hasSoundBehind_21 (by decide) ?_
      refine tr_goto hC dX3_hasSoundBehind_22 (tgt := 26) rfl ?_
      exact tr_zret hC hT dX3_hasSoundBehind_26 (nar_b (by decide)) ⟨_, rfl, (by rw [F_X3_hasSoundBehind, if_neg c6, if_neg c18]), rfl⟩
def G_X3_firstSlot (p1 : Int32) (p2 : Int32) : Prop := vp_in p2 41 ∧ ((vp_in ((p1 * 8) + 4) 96) ∧ (vp_in (p1 * 8) 96))
def F_X3_firstSlot (mem : TMem) (p1 : Int32) (p2 : Int32) : Int32 := if (mem (112 + p2.toNatClampNeg) (Int32.toNatClampNeg (p1 * 8))) ≤ (mem (112 + p2.toNatClampNeg) (Int32.toNatClampNeg ((p1 * 8) + 4))) then p1 * 8 else (p1 * 8) + 4
set_option maxRecDepth 100000 in
theorem C_X3_firstSlot (l : Launch) (mem : TMem) (p1 : Int32) (p2 : Int32) (hG : G_X3_firstSlot p1 p2) : TMi l i_X3_firstSlot 0 0 [.inr 108, .inl p1, .inl p2] mem (fun x m => x = F_X3_firstSlot mem p1 p2 ∧ m = mem) := by
  refine tw_met (by decide) (Nat.le_of_ble_eq_true rfl) (fun κ hl hC hT => ?_)
  subst hl
  unfold G_X3_firstSlot at hG
  show WT κ 0 [some (.inr 108), some (.inl p1), some (.inl p2), none, none] [] mem
  refine tr_iload_n hC dX3_firstSlot_0 rfl rfl ?_
  refine tr_bipush (v := 8) hC dX3_firstSlot_1 (by decide) ?_
  refine tr_imul hC dX3_firstSlot_3 ?_
  refine tr_istore_n (loc2 := [some (.inr 108), some (.inl p1), some (.inl p2), some (.inl (p1 * 8)), none]) hC dX3_firstSlot_4 rfl (by decide) rfl ?_
  refine tr_iload_n hC dX3_firstSlot_5 rfl rfl ?_
  refine tr_iconst (v := 4) hC dX3_firstSlot_6 (by decide) ?_
  refine tr_iadd hC dX3_firstSlot_7 ?_
  refine tr_istore (loc2 := [some (.inr 108), some (.inl p1), some (.inl p2), some (.inl (p1 * 8)), some (.inl ((p1 * 8) + 4))]) hC dX3_firstSlot_8 (by decide) rfl ?_
  refine tr_aload_n hC dX3_firstSlot_10 rfl rfl ?_
  refine tr_getr hC dX3_firstSlot_11 gf_X3_20 sh_108 rfl ?_
  refine tr_iload_n hC dX3_firstSlot_14 rfl rfl ?_
  obtain ⟨g1, hG⟩ := hG
  refine tr_aald hC dX3_firstSlot_15 sh_111 g1 ?_
  refine tr_iload hC dX3_firstSlot_16 rfl ?_
  obtain ⟨g2, hG⟩ := hG
  refine tr_al (v := mem (112 + p2.toNatClampNeg) (Int32.toNatClampNeg ((p1 * 8) + 4))) hC dX3_firstSlot_18 (shr_111 _ (vp_lt g1)) g2 rfl ?_
  refine tr_aload_n hC dX3_firstSlot_19 rfl rfl ?_
  refine tr_getr hC dX3_firstSlot_20 gf_X3_20 sh_108 rfl ?_
  refine tr_iload_n hC dX3_firstSlot_23 rfl rfl ?_
  refine tr_aald hC dX3_firstSlot_24 sh_111 g1 ?_
  refine tr_iload_n hC dX3_firstSlot_25 rfl rfl ?_
  have g3 := hG
  refine tr_al (v := mem (112 + p2.toNatClampNeg) (Int32.toNatClampNeg (p1 * 8))) hC dX3_firstSlot_26 (shr_111 _ (vp_lt g1)) g3 rfl ?_
  refine tr_icmp_ge hC dX3_firstSlot_27 (tgt := 35) rfl (fun c27 => ?_) (fun c27 => ?_)
  · refine tr_iload_n hC dX3_firstSlot_35 rfl rfl ?_
    exact tr_iret hC hT dX3_firstSlot_36 ⟨_, rfl, (by rw [F_X3_firstSlot, if_pos c27]), rfl⟩
  · refine tr_iload hC dX3_firstSlot_30 rfl ?_
    refine tr_goto hC dX3_firstSlot_32 (tgt := 36) rfl ?_
    exact tr_iret hC hT dX3_firstSlot_36 ⟨_, rfl, (by rw [F_X3_firstSlot, if_neg c27]), rfl⟩
def G_X3_goOn (mem : TMem) (p1 : Int32) (p2 : Int32) (p3 : Int32) : Prop := G_X3_hasSoundBehind p1 ∧ (((F_X3_hasSoundBehind mem p1) = 0 → ((((p1 / 8) + 1) = (mem 108 4) → ((p2 = p3 → (vp_in (p1 / 8) 12)))) ∧ (¬ (((p1 / 8) + 1) = (mem 108 4)) → ((¬ (p2 = p3) → ((vp_in (p1 / 8) 12) ∧ (vp_in p2 41 ∧ ((G_X3_firstSlot ((p1 / 8) + 1) p2) ∧ (vp_in (F_X3_firstSlot mem ((p1 / 8) + 1) p2) 96))))))))) ∧ (¬ ((F_X3_hasSoundBehind mem p1) = 0) → (vp_in p2 41 ∧ (vp_in (p1 + 1) 96))))
def F_X3_goOn (mem : TMem) (p1 : Int32) (p2 : Int32) (p3 : Int32) : Int32 := if (F_X3_hasSoundBehind mem p1) = 0 then if ((p1 / 8) + 1) = (mem 108 4) then if p2 = p3 then mem 110 (Int32.toNatClampNeg (p1 / 8)) else 1000000 else if p2 = p3 then 1000000 else (mem 110 (Int32.toNatClampNeg (p1 / 8))) + (mem (112 + p2.toNatClampNeg) (Int32.toNatClampNeg (F_X3_firstSlot mem ((p1 / 8) + 1) p2))) else mem (112 + p2.toNatClampNeg) (Int32.toNatClampNeg (p1 + 1))
set_option maxRecDepth 100000 in
theorem C_X3_goOn (l : Launch) (mem : TMem) (p1 : Int32) (p2 : Int32) (p3 : Int32) (hG : G_X3_goOn mem p1 p2 p3) : TMi l i_X3_goOn 1 24 [.inr 108, .inl p1, .inl p2, .inl p3] mem (fun x m => x = F_X3_goOn mem p1 p2 p3 ∧ m = mem) := by
  refine tw_met (by decide) (Nat.le_of_ble_eq_true rfl) (fun κ hl hC hT => ?_)
  subst hl
  unfold G_X3_goOn at hG
  show WT κ 0 [some (.inr 108), some (.inl p1), some (.inl p2), some (.inl p3), none, none, none] [] mem
  refine tr_aload_n hC dX3_goOn_0 rfl rfl ?_
  refine tr_iload_n hC dX3_goOn_1 rfl rfl ?_
  obtain ⟨g1, hG⟩ := hG
  refine tr_xVi (As := [.inl p1]) (fr2 := 0) (lo2 := 0) hC dX3_goOn_2 mc_X3_104 mv_X3_hasSoundBehind sh_108 rfl ⟨Nat.le_of_ble_eq_true rfl, Nat.le_of_ble_eq_true rfl, Nat.le_of_ble_eq_true rfl⟩ rfl (C_X3_hasSoundBehind _ mem p1 g1) ?_
  refine tr_if_eq hC dX3_goOn_5 (tgt := 19) rfl (fun c5 => ?_) (fun c5 => ?_)
  · have hG := hG.1 c5
    refine tr_iload_n hC dX3_goOn_19 rfl rfl ?_
    refine tr_bipush (v := 8) hC dX3_goOn_20 (by decide) ?_
    refine tr_idiv hC dX3_goOn_22 (by decide) ?_
    refine tr_istore (loc2 := [some (.inr 108), some (.inl p1), some (.inl p2), some (.inl p3), some (.inl (p1 / 8)), none, none]) hC dX3_goOn_23 (by decide) rfl ?_
    refine tr_iload hC dX3_goOn_25 rfl ?_
    refine tr_iconst (v := 1) hC dX3_goOn_27 (by decide) ?_
    refine tr_iadd hC dX3_goOn_28 ?_
    refine tr_aload_n hC dX3_goOn_29 rfl rfl ?_
    refine tr_gi (v := mem 108 4) hC dX3_goOn_30 gf_X3_26 sh_108 rfl rfl ?_
    refine tr_icmp_ne hC dX3_goOn_33 (tgt := 40) rfl (fun c33 => ?_) (fun c33 => ?_)
    · have hG := hG.2 c33
      refine tr_iconst (v := 0) hC dX3_goOn_40 (by decide) ?_
      refine tr_istore (loc2 := [some (.inr 108), some (.inl p1), some (.inl p2), some (.inl p3), some (.inl (p1 / 8)), some (.inl 0), none]) hC dX3_goOn_41 (by decide) rfl ?_
      refine tr_iload_n hC dX3_goOn_43 rfl rfl ?_
      refine tr_iload_n hC dX3_goOn_44 rfl rfl ?_
      refine tr_icmp_ne hC dX3_goOn_45 (tgt := 52) rfl (fun c45 => ?_) (fun c45 => ?_)
      · have hG := hG c45
        refine tr_iconst (v := 0) hC dX3_goOn_52 (by decide) ?_
        refine tr_istore (loc2 := [some (.inr 108), some (.inl p1), some (.inl p2), some (.inl p3), some (.inl (p1 / 8)), some (.inl 0), some (.inl 0)]) hC dX3_goOn_53 (by decide) rfl ?_
        refine tr_iload hC dX3_goOn_55 rfl ?_
        refine tr_iload hC dX3_goOn_57 rfl ?_
        refine tr_icmp_eq hC dX3_goOn_59 (tgt := 65) rfl (fun _ => ?_) (fun h => absurd h (by decide))
        refine tr_iload hC dX3_goOn_65 rfl ?_
        refine tr_if_eq hC dX3_goOn_67 (tgt := 80) rfl (fun _ => ?_) (fun h => absurd h (by decide))
        refine tr_aload_n hC dX3_goOn_80 rfl rfl ?_
        refine tr_getr hC dX3_goOn_81 gf_X3_15 sh_108 rfl ?_
        refine tr_iload hC dX3_goOn_84 rfl ?_
        obtain ⟨g2, hG⟩ := hG
        refine tr_al (v := mem 110 (Int32.toNatClampNeg (p1 / 8))) hC dX3_goOn_86 sh_110 g2 rfl ?_
        refine tr_aload_n hC dX3_goOn_87 rfl rfl ?_
        refine tr_getr hC dX3_goOn_88 gf_X3_20 sh_108 rfl ?_
        refine tr_iload_n hC dX3_goOn_91 rfl rfl ?_
        obtain ⟨g3, hG⟩ := hG
        refine tr_aald hC dX3_goOn_92 sh_111 g3 ?_
        refine tr_aload_n hC dX3_goOn_93 rfl rfl ?_
        refine tr_iload hC dX3_goOn_94 rfl ?_
        refine tr_iconst (v := 1) hC dX3_goOn_96 (by decide) ?_
        refine tr_iadd hC dX3_goOn_97 ?_
        refine tr_iload_n hC dX3_goOn_98 rfl rfl ?_
        obtain ⟨g4, hG⟩ := hG
        refine tr_xVi (As := [.inl ((p1 / 8) + 1), .inl p2]) (fr2 := 0) (lo2 := 0) hC dX3_goOn_99 mc_X3_64 mv_X3_firstSlot sh_108 rfl ⟨Nat.le_of_ble_eq_true rfl, Nat.le_of_ble_eq_true rfl, Nat.le_of_ble_eq_true rfl⟩ rfl (C_X3_firstSlot _ mem ((p1 / 8) + 1) p2 g4) ?_
        have g5 := hG
        refine tr_al (v := mem (112 + p2.toNatClampNeg) (Int32.toNatClampNeg (F_X3_firstSlot mem ((p1 / 8) + 1) p2))) hC dX3_goOn_102 (shr_111 _ (vp_lt g3)) g5 rfl ?_
        refine tr_iadd hC dX3_goOn_103 ?_
        exact tr_iret hC hT dX3_goOn_104 ⟨_, rfl, (by rw [F_X3_goOn, if_pos c5, if_neg c33, if_neg c45]), rfl⟩
      · refine tr_iconst (v := 1) hC dX3_goOn_48 (by decide) ?_
        refine tr_goto hC dX3_goOn_49 (tgt := 53) rfl ?_
        refine tr_istore (loc2 := [some (.inr 108), some (.inl p1), some (.inl p2), some (.inl p3), some (.inl (p1 / 8)), some (.inl 0), some (.inl 1)]) hC dX3_goOn_53 (by decide) rfl ?_
        refine tr_iload hC dX3_goOn_55 rfl ?_
        refine tr_iload hC dX3_goOn_57 rfl ?_
        refine tr_icmp_eq hC dX3_goOn_59 (tgt := 65) rfl (fun h => absurd h (by decide)) (fun _ => ?_)
        refine tr_ldc hC dX3_goOn_62 lc_X3_45 ?_
        exact tr_iret hC hT dX3_goOn_64 ⟨_, rfl, (by rw [F_X3_goOn, if_pos c5, if_neg c33, if_pos c45]), rfl⟩
    · have hG := hG.1 c33
      refine tr_iconst (v := 1) hC dX3_goOn_36 (by decide) ?_
      refine tr_goto hC dX3_goOn_37 (tgt := 41) rfl ?_
      refine tr_istore (loc2 := [some (.inr 108), some (.inl p1), some (.inl p2), some (.inl p3), some (.inl (p1 / 8)), some (.inl 1), none]) hC dX3_goOn_41 (by decide) rfl ?_
      refine tr_iload_n hC dX3_goOn_43 rfl rfl ?_
      refine tr_iload_n hC dX3_goOn_44 rfl rfl ?_
      refine tr_icmp_ne hC dX3_goOn_45 (tgt := 52) rfl (fun c45 => ?_) (fun c45 => ?_)
      · refine tr_iconst (v := 0) hC dX3_goOn_52 (by decide) ?_
        refine tr_istore (loc2 := [some (.inr 108), some (.inl p1), some (.inl p2), some (.inl p3), some (.inl (p1 / 8)), some (.inl 1), some (.inl 0)]) hC dX3_goOn_53 (by decide) rfl ?_
        refine tr_iload hC dX3_goOn_55 rfl ?_
        refine tr_iload hC dX3_goOn_57 rfl ?_
        refine tr_icmp_eq hC dX3_goOn_59 (tgt := 65) rfl (fun h => absurd h (by decide)) (fun _ => ?_)
        refine tr_ldc hC dX3_goOn_62 lc_X3_45 ?_
        exact tr_iret hC hT dX3_goOn_64 ⟨_, rfl, (by rw [F_X3_goOn, if_pos c5, if_pos c33, if_neg c45]), rfl⟩
      · have hG := hG c45
        refine tr_iconst (v := 1) hC dX3_goOn_48 (by decide) ?_
        refine tr_goto hC dX3_goOn_49 (tgt := 53) rfl ?_
        refine tr_istore (loc2 := [some (.inr 108), some (.inl p1), some (.inl p2), some (.inl p3), some (.inl (p1 / 8)), some (.inl 1), some (.inl 1)]) hC dX3_goOn_53 (by decide) rfl ?_
        refine tr_iload hC dX3_goOn_55 rfl ?_
        refine tr_iload hC dX3_goOn_57 rfl ?_
        refine tr_icmp_eq hC dX3_goOn_59 (tgt := 65) rfl (fun _ => ?_) (fun h => absurd h (by decide))
        refine tr_iload hC dX3_goOn_65 rfl ?_
        refine tr_if_eq hC dX3_goOn_67 (tgt := 80) rfl (fun h => absurd h (by decide)) (fun _ => ?_)
        refine tr_aload_n hC dX3_goOn_70 rfl rfl ?_
        refine tr_getr hC dX3_goOn_71 gf_X3_15 sh_108 rfl ?_
        refine tr_iload hC dX3_goOn_74 rfl ?_
        have g6 := hG
        refine tr_al (v := mem 110 (Int32.toNatClampNeg (p1 / 8))) hC dX3_goOn_76 sh_110 g6 rfl ?_
        refine tr_goto hC dX3_goOn_77 (tgt := 104) rfl ?_
        exact tr_iret hC hT dX3_goOn_104 ⟨_, rfl, (by rw [F_X3_goOn, if_pos c5, if_pos c33, if_pos c45]), rfl⟩
  · have hG := hG.2 c5
    refine tr_aload_n hC dX3_goOn_8 rfl rfl ?_
    refine tr_getr hC dX3_goOn_9 gf_X3_20 sh_108 rfl ?_
    refine tr_iload_n hC dX3_goOn_12 rfl rfl ?_
    obtain ⟨g7, hG⟩ := hG
    refine tr_aald hC dX3_goOn_13 sh_111 g7 ?_
    refine tr_iload_n hC dX3_goOn_14 rfl rfl ?_
    refine tr_iconst (v := 1) hC dX3_goOn_15 (by decide) ?_
    refine tr_iadd hC dX3_goOn_16 ?_
    have g8 := hG
    refine tr_al (v := mem (112 + p2.toNatClampNeg) (Int32.toNatClampNeg (p1 + 1))) hC dX3_goOn_17 (shr_111 _ (vp_lt g7)) g8 rfl ?_
    exact tr_iret hC hT dX3_goOn_18 ⟨_, rfl, (by rw [F_X3_goOn, if_neg c5]), rfl⟩
def G_X3_stayOn (p1 : Int32) (p2 : Int32) : Prop := vp_in p2 41 ∧ vp_in p1 96
set_option maxRecDepth 100000 in
theorem C_X3_stayOn (l : Launch) (mem : TMem) (p1 : Int32) (p2 : Int32) (hG : G_X3_stayOn p1 p2) : TMi l i_X3_stayOn 1 20 [.inr 108, .inr 1, .inl p1, .inl p2] mem (fun x m => x = (mem (112 + p2.toNatClampNeg) p1.toNatClampNeg) + (mem 1 3) ∧ m = mem) := by
  refine tw_met (by decide) (Nat.le_of_ble_eq_true rfl) (fun κ hl hC hT => ?_)
  subst hl
  unfold G_X3_stayOn at hG
  show WT κ 0 [some (.inr 108), some (.inr 1), some (.inl p1), some (.inl p2)] [] mem
  refine tr_aload_n hC dX3_stayOn_0 rfl rfl ?_
  refine tr_getr hC dX3_stayOn_1 gf_X3_20 sh_108 rfl ?_
  refine tr_iload_n hC dX3_stayOn_4 rfl rfl ?_
  obtain ⟨g1, hG⟩ := hG
  refine tr_aald hC dX3_stayOn_5 sh_111 g1 ?_
  refine tr_iload_n hC dX3_stayOn_6 rfl rfl ?_
  have g2 := hG
  refine tr_al (v := mem (112 + p2.toNatClampNeg) p1.toNatClampNeg) hC dX3_stayOn_7 (shr_111 _ (vp_lt g1)) g2 rfl ?_
  refine tr_aload_n hC dX3_stayOn_8 rfl rfl ?_
  refine tr_xVi (As := []) (fr2 := 0) (lo2 := 0) hC dX3_stayOn_9 mc_X3_101 mv_X2_stayCost sh_1 rfl ⟨Nat.le_of_ble_eq_true rfl, Nat.le_of_ble_eq_true rfl, Nat.le_of_ble_eq_true rfl⟩ rfl (C_X2_stayCost _ mem ) ?_
  refine tr_iadd hC dX3_stayOn_12 ?_
  exact tr_iret hC hT dX3_stayOn_13 ⟨_, rfl, rfl, rfl⟩
set_option maxRecDepth 100000 in
theorem C_X11_aheadAt (l : Launch) (mem : TMem) (p1 : Int32) (p2 : Int32) (p3 : Int32) (p4 : Int32) : TMi l i_X11_aheadAt 0 0 [.inl p1, .inl p2, .inl p3, .inl p4] mem (fun x m => x = (((((2 * p1) + p2) * 4) + p3) * 41) + p4 ∧ m = mem) := by
  refine tw_met (by decide) (Nat.le_of_ble_eq_true rfl) (fun κ hl hC hT => ?_)
  subst hl
  show WT κ 0 [some (.inl p1), some (.inl p2), some (.inl p3), some (.inl p4)] [] mem
  refine tr_iconst (v := 2) hC dX11_aheadAt_0 (by decide) ?_
  refine tr_iload_n hC dX11_aheadAt_1 rfl rfl ?_
  refine tr_imul hC dX11_aheadAt_2 ?_
  refine tr_iload_n hC dX11_aheadAt_3 rfl rfl ?_
  refine tr_iadd hC dX11_aheadAt_4 ?_
  refine tr_iconst (v := 4) hC dX11_aheadAt_5 (by decide) ?_
  refine tr_imul hC dX11_aheadAt_6 ?_
  refine tr_iload_n hC dX11_aheadAt_7 rfl rfl ?_
  refine tr_iadd hC dX11_aheadAt_8 ?_
  refine tr_bipush (v := 41) hC dX11_aheadAt_9 (by decide) ?_
  refine tr_imul hC dX11_aheadAt_11 ?_
  refine tr_iload_n hC dX11_aheadAt_12 rfl rfl ?_
  refine tr_iadd hC dX11_aheadAt_13 ?_
  exact tr_iret hC hT dX11_aheadAt_14 ⟨_, rfl, rfl, rfl⟩
def G_X3_stands (mem : TMem)  : Prop := ((mem 108 5) = 0 ∨ (mem 108 5) = 1)
set_option maxRecDepth 100000 in
theorem C_X3_stands (l : Launch) (mem : TMem)  (hG : G_X3_stands mem) : TMi l i_X3_stands 0 0 [.inr 108] mem (fun x m => x = mem 108 5 ∧ m = mem) := by
  refine tw_met (by decide) (Nat.le_of_ble_eq_true rfl) (fun κ hl hC hT => ?_)
  subst hl
  unfold G_X3_stands at hG
  show WT κ 0 [some (.inr 108)] [] mem
  refine tr_aload_n hC dX3_stands_0 rfl rfl ?_
  refine tr_gi (v := mem 108 5) hC dX3_stands_1 gf_X3_30 sh_108 rfl rfl ?_
  have g1 := hG
  exact tr_zret hC hT dX3_stands_4 (nar_b g1) ⟨_, rfl, rfl, rfl⟩
def G_X3_wayAt (p1 : Int32) : Prop := vp_in p1 40
set_option maxRecDepth 100000 in
theorem C_X3_wayAt (l : Launch) (mem : TMem) (p1 : Int32) (hG : G_X3_wayAt p1) : TMi l i_X3_wayAt 0 0 [.inr 108, .inl p1] mem (fun x m => x = ((mem 153 p1.toNatClampNeg) - (mem 153 p1.toNatClampNeg) / 8 * 8) / 4 ∧ m = mem) := by
  refine tw_met (by decide) (Nat.le_of_ble_eq_true rfl) (fun κ hl hC hT => ?_)
  subst hl
  unfold G_X3_wayAt at hG
  show WT κ 0 [some (.inr 108), some (.inl p1)] [] mem
  refine tr_aload_n hC dX3_wayAt_0 rfl rfl ?_
  refine tr_getr hC dX3_wayAt_1 gf_X3_23 sh_108 rfl ?_
  refine tr_iload_n hC dX3_wayAt_4 rfl rfl ?_
  have g1 := hG
  refine tr_al (v := mem 153 p1.toNatClampNeg) hC dX3_wayAt_5 sh_153 g1 rfl ?_
  refine tr_bipush (v := 8) hC dX3_wayAt_6 (by decide) ?_
  refine tr_irem hC dX3_wayAt_8 (by decide) ?_
  refine tr_iconst (v := 4) hC dX3_wayAt_9 (by decide) ?_
  refine tr_idiv hC dX3_wayAt_10 (by decide) ?_
  exact tr_iret hC hT dX3_wayAt_11 ⟨_, rfl, rfl, rfl⟩
def G_X3_placeAt (p1 : Int32) : Prop := vp_in p1 40
set_option maxRecDepth 100000 in
theorem C_X3_placeAt (l : Launch) (mem : TMem) (p1 : Int32) (hG : G_X3_placeAt p1) : TMi l i_X3_placeAt 0 0 [.inr 108, .inl p1] mem (fun x m => x = (mem 153 p1.toNatClampNeg) / 8 ∧ m = mem) := by
  refine tw_met (by decide) (Nat.le_of_ble_eq_true rfl) (fun κ hl hC hT => ?_)
  subst hl
  unfold G_X3_placeAt at hG
  show WT κ 0 [some (.inr 108), some (.inl p1)] [] mem
  refine tr_aload_n hC dX3_placeAt_0 rfl rfl ?_
  refine tr_getr hC dX3_placeAt_1 gf_X3_23 sh_108 rfl ?_
  refine tr_iload_n hC dX3_placeAt_4 rfl rfl ?_
  have g1 := hG
  refine tr_al (v := mem 153 p1.toNatClampNeg) hC dX3_placeAt_5 sh_153 g1 rfl ?_
  refine tr_bipush (v := 8) hC dX3_placeAt_6 (by decide) ?_
  refine tr_idiv hC dX3_placeAt_8 (by decide) ?_
  exact tr_iret hC hT dX3_placeAt_9 ⟨_, rfl, rfl, rfl⟩
def G_X3_soundAt (mem : TMem) (p1 : Int32) : Prop := vp_in p1 40 ∧ vp_in (mem 153 p1.toNatClampNeg) 96
set_option maxRecDepth 100000 in
theorem C_X3_soundAt (l : Launch) (mem : TMem) (p1 : Int32) (hG : G_X3_soundAt mem p1) : TMi l i_X3_soundAt 0 0 [.inr 108, .inl p1] mem (fun x m => x = mem 109 (Int32.toNatClampNeg (mem 153 p1.toNatClampNeg)) ∧ m = mem) := by
  refine tw_met (by decide) (Nat.le_of_ble_eq_true rfl) (fun κ hl hC hT => ?_)
  subst hl
  unfold G_X3_soundAt at hG
  show WT κ 0 [some (.inr 108), some (.inl p1)] [] mem
  refine tr_aload_n hC dX3_soundAt_0 rfl rfl ?_
  refine tr_getr hC dX3_soundAt_1 gf_X3_11 sh_108 rfl ?_
  refine tr_aload_n hC dX3_soundAt_4 rfl rfl ?_
  refine tr_getr hC dX3_soundAt_5 gf_X3_23 sh_108 rfl ?_
  refine tr_iload_n hC dX3_soundAt_8 rfl rfl ?_
  obtain ⟨g1, hG⟩ := hG
  refine tr_al (v := mem 153 p1.toNatClampNeg) hC dX3_soundAt_9 sh_153 g1 rfl ?_
  have g2 := hG
  refine tr_al (v := mem 109 (Int32.toNatClampNeg (mem 153 p1.toNatClampNeg))) hC dX3_soundAt_10 sh_109 g2 rfl ?_
  exact tr_iret hC hT dX3_soundAt_11 ⟨_, rfl, rfl, rfl⟩
def G_X10_laid (mem : TMem) (p1 : Int32) (p2 : Int32) : Prop := (¬ ((F_X10_within p1 0 ((mem 1 2) - 1)) = 0) → ((¬ ((F_X10_within p2 0 2) = 0) → (G_X3_stands mem ∧ ((¬ ((mem 108 5) = 0) → ((p2 = 0 → G_X3_soundAt mem p1) ∧ (¬ (p2 = 0) → ((p2 = 1 → G_X3_placeAt p1) ∧ (¬ (p2 = 1) → G_X3_wayAt p1))))))))))
def F_X10_laid (mem : TMem) (p1 : Int32) (p2 : Int32) : Int32 := if (F_X10_within p1 0 ((mem 1 2) - 1)) = 0 then (-2) else if (F_X10_within p2 0 2) = 0 then (-2) else if (mem 108 5) = 0 then (-3) else if p2 = 0 then mem 109 (Int32.toNatClampNeg (mem 153 p1.toNatClampNeg)) else if p2 = 1 then (mem 153 p1.toNatClampNeg) / 8 else ((mem 153 p1.toNatClampNeg) - (mem 153 p1.toNatClampNeg) / 8 * 8) / 4
set_option maxRecDepth 100000 in
theorem C_X10_laid (l : Launch) (mem : TMem) (p1 : Int32) (p2 : Int32) (hG : G_X10_laid mem p1 p2) : TMi l i_X10_laid 1 22 [.inr 0, .inl p1, .inl p2] mem (fun x m => x = F_X10_laid mem p1 p2 ∧ m = mem) := by
  refine tw_met (by decide) (Nat.le_of_ble_eq_true rfl) (fun κ hl hC hT => ?_)
  subst hl
  unfold G_X10_laid at hG
  show WT κ 0 [some (.inr 0), some (.inl p1), some (.inl p2)] [] mem
  refine tr_iload_n hC dX10_laid_0 rfl rfl ?_
  refine tr_iconst (v := 0) hC dX10_laid_1 (by decide) ?_
  refine tr_aload_n hC dX10_laid_2 rfl rfl ?_
  refine tr_getr hC dX10_laid_3 gf_X10_10 sh_0 rfl ?_
  refine tr_xVi (As := []) (fr2 := 0) (lo2 := 0) hC dX10_laid_6 mc_X10_78 mv_X2_frames sh_1 rfl ⟨Nat.le_of_ble_eq_true rfl, Nat.le_of_ble_eq_true rfl, Nat.le_of_ble_eq_true rfl⟩ rfl (C_X2_frames _ mem ) ?_
  refine tr_iconst (v := 1) hC dX10_laid_9 (by decide) ?_
  refine tr_isub hC dX10_laid_10 ?_
  refine tr_xSi (As := [.inl p1, .inl 0, .inl ((mem 1 2) - 1)]) (fr2 := 0) (lo2 := 0) hC dX10_laid_11 mc_X10_94 mst_X10_within ⟨Nat.le_of_ble_eq_true rfl, Nat.le_of_ble_eq_true rfl, Nat.le_of_ble_eq_true rfl⟩ rfl (C_X10_within _ mem p1 0 ((mem 1 2) - 1)) ?_
  refine tr_if_eq hC dX10_laid_14 (tgt := 26) rfl (fun c14 => ?_) (fun c14 => ?_)
  · refine tr_bipush (v := (-2)) hC dX10_laid_26 (by decide) ?_
    exact tr_iret hC hT dX10_laid_28 ⟨_, rfl, (by rw [F_X10_laid, if_pos c14]), rfl⟩
  · have hG := hG c14
    refine tr_iload_n hC dX10_laid_17 rfl rfl ?_
    refine tr_iconst (v := 0) hC dX10_laid_18 (by decide) ?_
    refine tr_iconst (v := 2) hC dX10_laid_19 (by decide) ?_
    refine tr_xSi (As := [.inl p2, .inl 0, .inl 2]) (fr2 := 0) (lo2 := 0) hC dX10_laid_20 mc_X10_94 mst_X10_within ⟨Nat.le_of_ble_eq_true rfl, Nat.le_of_ble_eq_true rfl, Nat.le_of_ble_eq_true rfl⟩ rfl (C_X10_within _ mem p2 0 2) ?_
    refine tr_if_ne hC dX10_laid_23 (tgt := 29) rfl (fun c23 => ?_) (fun c23 => ?_)
    · have hG := hG c23
      refine tr_aload_n hC dX10_laid_29 rfl rfl ?_
      refine tr_getr hC dX10_laid_30 gf_X10_42 sh_0 rfl ?_
      obtain ⟨g1, hG⟩ := hG
      refine tr_xVi (As := []) (fr2 := 0) (lo2 := 0) hC dX10_laid_33 mc_X10_172 mv_X3_stands sh_108 rfl ⟨Nat.le_of_ble_eq_true rfl, Nat.le_of_ble_eq_true rfl, Nat.le_of_ble_eq_true rfl⟩ rfl (C_X3_stands _ mem  g1) ?_
      refine tr_if_ne hC dX10_laid_36 (tgt := 42) rfl (fun c36 => ?_) (fun c36 => ?_)
      · have hG := hG c36
        refine tr_iload_n hC dX10_laid_42 rfl rfl ?_
        refine tr_if_ne hC dX10_laid_43 (tgt := 55) rfl (fun c43 => ?_) (fun c43 => ?_)
        · have hG := hG.2 c43
          refine tr_iload_n hC dX10_laid_55 rfl rfl ?_
          refine tr_iconst (v := 1) hC dX10_laid_56 (by decide) ?_
          refine tr_icmp_ne hC dX10_laid_57 (tgt := 71) rfl (fun c57 => ?_) (fun c57 => ?_)
          · have hG := hG.2 c57
            refine tr_aload_n hC dX10_laid_71 rfl rfl ?_
            refine tr_getr hC dX10_laid_72 gf_X10_42 sh_0 rfl ?_
            refine tr_iload_n hC dX10_laid_75 rfl rfl ?_
            have g2 := hG
            refine tr_xVi (As := [.inl p1]) (fr2 := 0) (lo2 := 0) hC dX10_laid_76 mc_X10_182 mv_X3_wayAt sh_108 rfl ⟨Nat.le_of_ble_eq_true rfl, Nat.le_of_ble_eq_true rfl, Nat.le_of_ble_eq_true rfl⟩ rfl (C_X3_wayAt _ mem p1 g2) ?_
            exact tr_iret hC hT dX10_laid_79 ⟨_, rfl, (by rw [F_X10_laid, if_neg c14, if_neg c23, if_neg c36, if_neg c43, if_neg c57]), rfl⟩
          · have hG := hG.1 c57
            refine tr_aload_n hC dX10_laid_60 rfl rfl ?_
            refine tr_getr hC dX10_laid_61 gf_X10_42 sh_0 rfl ?_
            refine tr_iload_n hC dX10_laid_64 rfl rfl ?_
            have g3 := hG
            refine tr_xVi (As := [.inl p1]) (fr2 := 0) (lo2 := 0) hC dX10_laid_65 mc_X10_179 mv_X3_placeAt sh_108 rfl ⟨Nat.le_of_ble_eq_true rfl, Nat.le_of_ble_eq_true rfl, Nat.le_of_ble_eq_true rfl⟩ rfl (C_X3_placeAt _ mem p1 g3) ?_
            refine tr_goto hC dX10_laid_68 (tgt := 79) rfl ?_
            exact tr_iret hC hT dX10_laid_79 ⟨_, rfl, (by rw [F_X10_laid, if_neg c14, if_neg c23, if_neg c36, if_neg c43, if_pos c57]), rfl⟩
        · have hG := hG.1 c43
          refine tr_aload_n hC dX10_laid_46 rfl rfl ?_
          refine tr_getr hC dX10_laid_47 gf_X10_42 sh_0 rfl ?_
          refine tr_iload_n hC dX10_laid_50 rfl rfl ?_
          have g4 := hG
          refine tr_xVi (As := [.inl p1]) (fr2 := 0) (lo2 := 0) hC dX10_laid_51 mc_X10_176 mv_X3_soundAt sh_108 rfl ⟨Nat.le_of_ble_eq_true rfl, Nat.le_of_ble_eq_true rfl, Nat.le_of_ble_eq_true rfl⟩ rfl (C_X3_soundAt _ mem p1 g4) ?_
          exact tr_iret hC hT dX10_laid_54 ⟨_, rfl, (by rw [F_X10_laid, if_neg c14, if_neg c23, if_neg c36, if_pos c43]), rfl⟩
      · refine tr_bipush (v := (-3)) hC dX10_laid_39 (by decide) ?_
        exact tr_iret hC hT dX10_laid_41 ⟨_, rfl, (by rw [F_X10_laid, if_neg c14, if_neg c23, if_pos c36]), rfl⟩
    · refine tr_bipush (v := (-2)) hC dX10_laid_26 (by decide) ?_
      exact tr_iret hC hT dX10_laid_28 ⟨_, rfl, (by rw [F_X10_laid, if_neg c14, if_pos c23]), rfl⟩
def G_X11_laid (mem : TMem) (p1 : Int32) (p2 : Int32) : Prop := (¬ ((F_X11_in p1 0 ((mem 187 0) - 1)) = 0) → ((¬ ((F_X11_in p2 0 2) = 0) → ((¬ ((mem 187 11) = 0) → ((p2 = 0 → vp_in p1 40) ∧ (¬ (p2 = 0) → ((p2 = 1 → vp_in p1 40) ∧ (¬ (p2 = 1) → vp_in p1 40)))))))))
def F_X11_laid (mem : TMem) (p1 : Int32) (p2 : Int32) : Int32 := if (F_X11_in p1 0 ((mem 187 0) - 1)) = 0 then (-2) else if (F_X11_in p2 0 2) = 0 then (-2) else if (mem 187 11) = 0 then (-3) else if p2 = 0 then mem 195 p1.toNatClampNeg else if p2 = 1 then mem 196 p1.toNatClampNeg else mem 197 p1.toNatClampNeg
set_option maxRecDepth 100000 in
theorem C_X11_laid (l : Launch) (mem : TMem) (p1 : Int32) (p2 : Int32) (hG : G_X11_laid mem p1 p2) : TMi l i_X11_laid 1 22 [.inr 187, .inl p1, .inl p2] mem (fun x m => x = F_X11_laid mem p1 p2 ∧ m = mem) := by
  refine tw_met (by decide) (Nat.le_of_ble_eq_true rfl) (fun κ hl hC hT => ?_)
  subst hl
  unfold G_X11_laid at hG
  show WT κ 0 [some (.inr 187), some (.inl p1), some (.inl p2)] [] mem
  refine tr_iload_n hC dX11_laid_0 rfl rfl ?_
  refine tr_iconst (v := 0) hC dX11_laid_1 (by decide) ?_
  refine tr_aload_n hC dX11_laid_2 rfl rfl ?_
  refine tr_gi (v := mem 187 0) hC dX11_laid_3 gf_X11_93 sh_187 rfl rfl ?_
  refine tr_iconst (v := 1) hC dX11_laid_6 (by decide) ?_
  refine tr_isub hC dX11_laid_7 ?_
  refine tr_xSi (As := [.inl p1, .inl 0, .inl ((mem 187 0) - 1)]) (fr2 := 0) (lo2 := 0) hC dX11_laid_8 mc_X11_89 mst_X11_in ⟨Nat.le_of_ble_eq_true rfl, Nat.le_of_ble_eq_true rfl, Nat.le_of_ble_eq_true rfl⟩ rfl (C_X11_in _ mem p1 0 ((mem 187 0) - 1)) ?_
  refine tr_if_eq hC dX11_laid_11 (tgt := 23) rfl (fun c11 => ?_) (fun c11 => ?_)
  · refine tr_bipush (v := (-2)) hC dX11_laid_23 (by decide) ?_
    exact tr_iret hC hT dX11_laid_25 ⟨_, rfl, (by rw [F_X11_laid, if_pos c11]), rfl⟩
  · have hG := hG c11
    refine tr_iload_n hC dX11_laid_14 rfl rfl ?_
    refine tr_iconst (v := 0) hC dX11_laid_15 (by decide) ?_
    refine tr_iconst (v := 2) hC dX11_laid_16 (by decide) ?_
    refine tr_xSi (As := [.inl p2, .inl 0, .inl 2]) (fr2 := 0) (lo2 := 0) hC dX11_laid_17 mc_X11_89 mst_X11_in ⟨Nat.le_of_ble_eq_true rfl, Nat.le_of_ble_eq_true rfl, Nat.le_of_ble_eq_true rfl⟩ rfl (C_X11_in _ mem p2 0 2) ?_
    refine tr_if_ne hC dX11_laid_20 (tgt := 26) rfl (fun c20 => ?_) (fun c20 => ?_)
    · have hG := hG c20
      refine tr_aload_n hC dX11_laid_26 rfl rfl ?_
      refine tr_gi (v := mem 187 11) hC dX11_laid_27 gf_X11_96 sh_187 rfl rfl ?_
      refine tr_if_ne hC dX11_laid_30 (tgt := 38) rfl (fun c30 => ?_) (fun c30 => ?_)
      · have hG := hG c30
        refine tr_iload_n hC dX11_laid_38 rfl rfl ?_
        refine tr_if_ne hC dX11_laid_39 (tgt := 51) rfl (fun c39 => ?_) (fun c39 => ?_)
        · have hG := hG.2 c39
          refine tr_iload_n hC dX11_laid_51 rfl rfl ?_
          refine tr_iconst (v := 1) hC dX11_laid_52 (by decide) ?_
          refine tr_icmp_ne hC dX11_laid_53 (tgt := 65) rfl (fun c53 => ?_) (fun c53 => ?_)
          · have hG := hG.2 c53
            refine tr_aload_n hC dX11_laid_65 rfl rfl ?_
            refine tr_getr hC dX11_laid_66 gf_X11_41 sh_187 rfl ?_
            refine tr_iload_n hC dX11_laid_69 rfl rfl ?_
            have g1 := hG
            refine tr_al (v := mem 197 p1.toNatClampNeg) hC dX11_laid_70 sh_197 g1 rfl ?_
            exact tr_iret hC hT dX11_laid_71 ⟨_, rfl, (by rw [F_X11_laid, if_neg c11, if_neg c20, if_neg c30, if_neg c39, if_neg c53]), rfl⟩
          · have hG := hG.1 c53
            refine tr_aload_n hC dX11_laid_56 rfl rfl ?_
            refine tr_getr hC dX11_laid_57 gf_X11_38 sh_187 rfl ?_
            refine tr_iload_n hC dX11_laid_60 rfl rfl ?_
            have g2 := hG
            refine tr_al (v := mem 196 p1.toNatClampNeg) hC dX11_laid_61 sh_196 g2 rfl ?_
            refine tr_goto hC dX11_laid_62 (tgt := 71) rfl ?_
            exact tr_iret hC hT dX11_laid_71 ⟨_, rfl, (by rw [F_X11_laid, if_neg c11, if_neg c20, if_neg c30, if_neg c39, if_pos c53]), rfl⟩
        · have hG := hG.1 c39
          refine tr_aload_n hC dX11_laid_42 rfl rfl ?_
          refine tr_getr hC dX11_laid_43 gf_X11_35 sh_187 rfl ?_
          refine tr_iload_n hC dX11_laid_46 rfl rfl ?_
          have g3 := hG
          refine tr_al (v := mem 195 p1.toNatClampNeg) hC dX11_laid_47 sh_195 g3 rfl ?_
          refine tr_goto hC dX11_laid_48 (tgt := 71) rfl ?_
          exact tr_iret hC hT dX11_laid_71 ⟨_, rfl, (by rw [F_X11_laid, if_neg c11, if_neg c20, if_neg c30, if_pos c39]), rfl⟩
      · refine tr_bipush (v := (-3)) hC dX11_laid_33 (by decide) ?_
        refine tr_goto hC dX11_laid_35 (tgt := 71) rfl ?_
        exact tr_iret hC hT dX11_laid_71 ⟨_, rfl, (by rw [F_X11_laid, if_neg c11, if_neg c20, if_pos c30]), rfl⟩
    · refine tr_bipush (v := (-2)) hC dX11_laid_23 (by decide) ?_
      exact tr_iret hC hT dX11_laid_25 ⟨_, rfl, (by rw [F_X11_laid, if_neg c11, if_pos c20]), rfl⟩
def G_X2_markOf (p1 : Int32) : Prop := vp_in p1 40
set_option maxRecDepth 100000 in
theorem C_X2_markOf (l : Launch) (mem : TMem) (p1 : Int32) (hG : G_X2_markOf p1) : TMi l i_X2_markOf 0 0 [.inr 1, .inl p1] mem (fun x m => x = mem 2 p1.toNatClampNeg ∧ m = mem) := by
  refine tw_met (by decide) (Nat.le_of_ble_eq_true rfl) (fun κ hl hC hT => ?_)
  subst hl
  unfold G_X2_markOf at hG
  show WT κ 0 [some (.inr 1), some (.inl p1)] [] mem
  refine tr_aload_n hC dX2_markOf_0 rfl rfl ?_
  refine tr_getr hC dX2_markOf_1 gf_X2_9 sh_1 rfl ?_
  refine tr_iload_n hC dX2_markOf_4 rfl rfl ?_
  have g1 := hG
  refine tr_al (v := mem 2 p1.toNatClampNeg) hC dX2_markOf_5 sh_2 g1 rfl ?_
  exact tr_iret hC hT dX2_markOf_6 ⟨_, rfl, rfl, rfl⟩
set_option maxRecDepth 100000 in
theorem C_X4_kept (l : Launch) (mem : TMem)  : TMi l i_X4_kept 0 0 [.inr 156] mem (fun x m => x = mem 156 3 ∧ m = mem) := by
  refine tw_met (by decide) (Nat.le_of_ble_eq_true rfl) (fun κ hl hC hT => ?_)
  subst hl
  show WT κ 0 [some (.inr 156)] [] mem
  refine tr_aload_n hC dX4_kept_0 rfl rfl ?_
  refine tr_gi (v := mem 156 3) hC dX4_kept_1 gf_X4_23 sh_156 rfl rfl ?_
  exact tr_iret hC hT dX4_kept_4 ⟨_, rfl, rfl, rfl⟩
def G_X4_countOf (p1 : Int32) (p2 : Int32) : Prop := vp_in p1 6 ∧ vp_in p2 8
set_option maxRecDepth 100000 in
theorem C_X4_countOf (l : Launch) (mem : TMem) (p1 : Int32) (p2 : Int32) (hG : G_X4_countOf p1 p2) : TMi l i_X4_countOf 0 0 [.inr 156, .inl p1, .inl p2] mem (fun x m => x = mem (158 + p1.toNatClampNeg) p2.toNatClampNeg ∧ m = mem) := by
  refine tw_met (by decide) (Nat.le_of_ble_eq_true rfl) (fun κ hl hC hT => ?_)
  subst hl
  unfold G_X4_countOf at hG
  show WT κ 0 [some (.inr 156), some (.inl p1), some (.inl p2)] [] mem
  refine tr_aload_n hC dX4_countOf_0 rfl rfl ?_
  refine tr_getr hC dX4_countOf_1 gf_X4_11 sh_156 rfl ?_
  refine tr_iload_n hC dX4_countOf_4 rfl rfl ?_
  obtain ⟨g1, hG⟩ := hG
  refine tr_aald hC dX4_countOf_5 sh_157 g1 ?_
  refine tr_iload_n hC dX4_countOf_6 rfl rfl ?_
  have g2 := hG
  refine tr_al (v := mem (158 + p1.toNatClampNeg) p2.toNatClampNeg) hC dX4_countOf_7 (shr_157 _ (vp_lt g1)) g2 rfl ?_
  exact tr_iret hC hT dX4_countOf_8 ⟨_, rfl, rfl, rfl⟩
def G_X10_taught (p1 : Int32) (p2 : Int32) : Prop := (¬ ((F_X10_within p1 0 5) = 0) → ((¬ ((F_X10_within p2 0 7) = 0) → G_X4_countOf p1 p2)))
def F_X10_taught (mem : TMem) (p1 : Int32) (p2 : Int32) : Int32 := if (F_X10_within p1 0 5) = 0 then (-2) else if (F_X10_within p2 0 7) = 0 then (-2) else mem (158 + p1.toNatClampNeg) p2.toNatClampNeg
set_option maxRecDepth 100000 in
theorem C_X10_taught (l : Launch) (mem : TMem) (p1 : Int32) (p2 : Int32) (hG : G_X10_taught p1 p2) : TMi l i_X10_taught 2 42 [.inr 0, .inl p1, .inl p2] mem (fun x m => x = F_X10_taught mem p1 p2 ∧ m = mem) := by
  refine tw_met (by decide) (Nat.le_of_ble_eq_true rfl) (fun κ hl hC hT => ?_)
  subst hl
  unfold G_X10_taught at hG
  show WT κ 0 [some (.inr 0), some (.inl p1), some (.inl p2)] [] mem
  refine tr_iload_n hC dX10_taught_0 rfl rfl ?_
  refine tr_xSi (As := [.inl p1]) (fr2 := 1) (lo2 := 22) hC dX10_taught_1 mc_X10_91 mst_X10_isSound ⟨Nat.le_of_ble_eq_true rfl, Nat.le_of_ble_eq_true rfl, Nat.le_of_ble_eq_true rfl⟩ rfl (C_X10_isSound _ mem p1) ?_
  refine tr_if_eq hC dX10_taught_4 (tgt := 26) rfl (fun c4 => ?_) (fun c4 => ?_)
  · refine tr_bipush (v := (-2)) hC dX10_taught_26 (by decide) ?_
    exact tr_iret hC hT dX10_taught_28 ⟨_, rfl, (by rw [F_X10_taught, if_pos c4]), rfl⟩
  · have hG := hG c4
    refine tr_iload_n hC dX10_taught_7 rfl rfl ?_
    refine tr_xSi (As := [.inl p2]) (fr2 := 1) (lo2 := 22) hC dX10_taught_8 mc_X10_74 mst_X10_isMark ⟨Nat.le_of_ble_eq_true rfl, Nat.le_of_ble_eq_true rfl, Nat.le_of_ble_eq_true rfl⟩ rfl (C_X10_isMark _ mem p2) ?_
    refine tr_if_eq hC dX10_taught_11 (tgt := 26) rfl (fun c11 => ?_) (fun c11 => ?_)
    · refine tr_bipush (v := (-2)) hC dX10_taught_26 (by decide) ?_
      exact tr_iret hC hT dX10_taught_28 ⟨_, rfl, (by rw [F_X10_taught, if_neg c4, if_pos c11]), rfl⟩
    · have hG := hG c11
      refine tr_aload_n hC dX10_taught_14 rfl rfl ?_
      refine tr_getr hC dX10_taught_15 gf_X10_56 sh_0 rfl ?_
      refine tr_iload_n hC dX10_taught_18 rfl rfl ?_
      refine tr_iload_n hC dX10_taught_19 rfl rfl ?_
      have g1 := hG
      refine tr_xVi (As := [.inl p1, .inl p2]) (fr2 := 0) (lo2 := 0) hC dX10_taught_20 mc_X10_199 mv_X4_countOf sh_156 rfl ⟨Nat.le_of_ble_eq_true rfl, Nat.le_of_ble_eq_true rfl, Nat.le_of_ble_eq_true rfl⟩ rfl (C_X4_countOf _ mem p1 p2 g1) ?_
      refine tr_goto hC dX10_taught_23 (tgt := 28) rfl ?_
      exact tr_iret hC hT dX10_taught_28 ⟨_, rfl, (by rw [F_X10_taught, if_neg c4, if_neg c11]), rfl⟩
def G_X11_taught (p1 : Int32) (p2 : Int32) : Prop := (¬ ((F_X11_in p1 0 5) = 0) → ((¬ ((F_X11_in p2 0 7) = 0) → (vp_in ((8 * p1) + p2) 48))))
def F_X11_taught (mem : TMem) (p1 : Int32) (p2 : Int32) : Int32 := if (F_X11_in p1 0 5) = 0 then (-2) else if (F_X11_in p2 0 7) = 0 then (-2) else mem 198 (Int32.toNatClampNeg ((8 * p1) + p2))
set_option maxRecDepth 100000 in
theorem C_X11_taught (l : Launch) (mem : TMem) (p1 : Int32) (p2 : Int32) (hG : G_X11_taught p1 p2) : TMi l i_X11_taught 1 22 [.inr 187, .inl p1, .inl p2] mem (fun x m => x = F_X11_taught mem p1 p2 ∧ m = mem) := by
  refine tw_met (by decide) (Nat.le_of_ble_eq_true rfl) (fun κ hl hC hT => ?_)
  subst hl
  unfold G_X11_taught at hG
  show WT κ 0 [some (.inr 187), some (.inl p1), some (.inl p2)] [] mem
  refine tr_iload_n hC dX11_taught_0 rfl rfl ?_
  refine tr_iconst (v := 0) hC dX11_taught_1 (by decide) ?_
  refine tr_iconst (v := 5) hC dX11_taught_2 (by decide) ?_
  refine tr_xSi (As := [.inl p1, .inl 0, .inl 5]) (fr2 := 0) (lo2 := 0) hC dX11_taught_3 mc_X11_89 mst_X11_in ⟨Nat.le_of_ble_eq_true rfl, Nat.le_of_ble_eq_true rfl, Nat.le_of_ble_eq_true rfl⟩ rfl (C_X11_in _ mem p1 0 5) ?_
  refine tr_if_eq hC dX11_taught_6 (tgt := 33) rfl (fun c6 => ?_) (fun c6 => ?_)
  · refine tr_bipush (v := (-2)) hC dX11_taught_33 (by decide) ?_
    exact tr_iret hC hT dX11_taught_35 ⟨_, rfl, (by rw [F_X11_taught, if_pos c6]), rfl⟩
  · have hG := hG c6
    refine tr_iload_n hC dX11_taught_9 rfl rfl ?_
    refine tr_iconst (v := 0) hC dX11_taught_10 (by decide) ?_
    refine tr_bipush (v := 7) hC dX11_taught_11 (by decide) ?_
    refine tr_xSi (As := [.inl p2, .inl 0, .inl 7]) (fr2 := 0) (lo2 := 0) hC dX11_taught_13 mc_X11_89 mst_X11_in ⟨Nat.le_of_ble_eq_true rfl, Nat.le_of_ble_eq_true rfl, Nat.le_of_ble_eq_true rfl⟩ rfl (C_X11_in _ mem p2 0 7) ?_
    refine tr_if_eq hC dX11_taught_16 (tgt := 33) rfl (fun c16 => ?_) (fun c16 => ?_)
    · refine tr_bipush (v := (-2)) hC dX11_taught_33 (by decide) ?_
      exact tr_iret hC hT dX11_taught_35 ⟨_, rfl, (by rw [F_X11_taught, if_neg c6, if_pos c16]), rfl⟩
    · have hG := hG c16
      refine tr_aload_n hC dX11_taught_19 rfl rfl ?_
      refine tr_getr hC dX11_taught_20 gf_X11_44 sh_187 rfl ?_
      refine tr_bipush (v := 8) hC dX11_taught_23 (by decide) ?_
      refine tr_iload_n hC dX11_taught_25 rfl rfl ?_
      refine tr_imul hC dX11_taught_26 ?_
      refine tr_iload_n hC dX11_taught_27 rfl rfl ?_
      refine tr_iadd hC dX11_taught_28 ?_
      have g1 := hG
      refine tr_al (v := mem 198 (Int32.toNatClampNeg ((8 * p1) + p2))) hC dX11_taught_29 sh_198 g1 rfl ?_
      refine tr_goto hC dX11_taught_30 (tgt := 35) rfl ?_
      exact tr_iret hC hT dX11_taught_35 ⟨_, rfl, (by rw [F_X11_taught, if_neg c6, if_neg c16]), rfl⟩
def G_X8_start_182 (p1 : Int32) (p2 : Int32) : Prop := vp_in p1 41
set_option maxRecDepth 100000 in
theorem C_X8_start_182 (l : Launch) (mem : TMem) (p1 : Int32) (p2 : Int32) (hG : G_X8_start_182 p1 p2) : TMv l i_X8_start 1 21 [.inr 182, .inl p1, .inl p2] mem (fun m => m = (mset mem 183 p1.toNatClampNeg (imin 1000000 p2))) := by
  refine tw_met (by decide) (Nat.le_of_ble_eq_true rfl) (fun κ hl hC hT => ?_)
  subst hl
  unfold G_X8_start_182 at hG
  show WT κ 0 [some (.inr 182), some (.inl p1), some (.inl p2)] [] mem
  refine tr_aload_n hC dX8_start_0 rfl rfl ?_
  refine tr_getr hC dX8_start_1 gf_X8_9 sh_182 rfl ?_
  refine tr_iload_n hC dX8_start_4 rfl rfl ?_
  refine tr_ldc hC dX8_start_5 lc_X8_21 ?_
  refine tr_iload_n hC dX8_start_7 rfl rfl ?_
  refine tr_min hC dX8_start_8 mm_X8_28 ⟨Nat.le_of_ble_eq_true rfl, Nat.le_of_ble_eq_true rfl⟩ ?_
  have g1 := hG
  refine tr_iast hC dX8_start_11 sh_183 g1 ?_
  exact tr_vret hC hT dX8_start_12 ⟨rfl, rfl⟩
def G_X8_endAt_182 (p1 : Int32) : Prop := vp_in p1 41
set_option maxRecDepth 100000 in
theorem C_X8_endAt_182 (l : Launch) (mem : TMem) (p1 : Int32) (hG : G_X8_endAt_182 p1) : TMi l i_X8_endAt 0 0 [.inr 182, .inl p1] mem (fun x m => x = mem 184 p1.toNatClampNeg ∧ m = mem) := by
  refine tw_met (by decide) (Nat.le_of_ble_eq_true rfl) (fun κ hl hC hT => ?_)
  subst hl
  unfold G_X8_endAt_182 at hG
  show WT κ 0 [some (.inr 182), some (.inl p1)] [] mem
  refine tr_aload_n hC dX8_endAt_0 rfl rfl ?_
  refine tr_getr hC dX8_endAt_1 gf_X8_15 sh_182 rfl ?_
  refine tr_iload_n hC dX8_endAt_4 rfl rfl ?_
  have g1 := hG
  refine tr_al (v := mem 184 p1.toNatClampNeg) hC dX8_endAt_5 sh_184 g1 rfl ?_
  exact tr_iret hC hT dX8_endAt_6 ⟨_, rfl, rfl, rfl⟩
def F_X9_isCheaper (mem : TMem) (p1 : Int32) (p2 : Int32) : Int32 := if ((mem 181 3) * p2) ≤ (p1 * ((mem 181 2) - (mem 181 1))) then 0 else 1
theorem B_X9_isCheaper (mem : TMem) (p1 : Int32) (p2 : Int32) : F_X9_isCheaper mem p1 p2 = 0 ∨ F_X9_isCheaper mem p1 p2 = 1 := by
  unfold F_X9_isCheaper
  repeat (first | (split) | (exact Or.inl rfl) | (exact Or.inr rfl))
set_option maxRecDepth 100000 in
theorem C_X9_isCheaper (l : Launch) (mem : TMem) (p1 : Int32) (p2 : Int32) : TMi l i_X9_isCheaper 0 0 [.inr 181, .inl p1, .inl p2] mem (fun x m => x = F_X9_isCheaper mem p1 p2 ∧ m = mem) := by
  refine tw_met (by decide) (Nat.le_of_ble_eq_true rfl) (fun κ hl hC hT => ?_)
  subst hl
  show WT κ 0 [some (.inr 181), some (.inl p1), some (.inl p2)] [] mem
  refine tr_iload_n hC dX9_isCheaper_0 rfl rfl ?_
  refine tr_aload_n hC dX9_isCheaper_1 rfl rfl ?_
  refine tr_gi (v := mem 181 2) hC dX9_isCheaper_2 gf_X9_22 sh_181 rfl rfl ?_
  refine tr_aload_n hC dX9_isCheaper_5 rfl rfl ?_
  refine tr_gi (v := mem 181 1) hC dX9_isCheaper_6 gf_X9_18 sh_181 rfl rfl ?_
  refine tr_isub hC dX9_isCheaper_9 ?_
  refine tr_imul hC dX9_isCheaper_10 ?_
  refine tr_aload_n hC dX9_isCheaper_11 rfl rfl ?_
  refine tr_gi (v := mem 181 3) hC dX9_isCheaper_12 gf_X9_25 sh_181 rfl rfl ?_
  refine tr_iload_n hC dX9_isCheaper_15 rfl rfl ?_
  refine tr_imul hC dX9_isCheaper_16 ?_
  refine tr_icmp_ge hC dX9_isCheaper_17 (tgt := 24) rfl (fun c17 => ?_) (fun c17 => ?_)
  · refine tr_iconst (v := 0) hC dX9_isCheaper_24 (by decide) ?_
    exact tr_zret hC hT dX9_isCheaper_25 (nar_b (by decide)) ⟨_, rfl, (by rw [F_X9_isCheaper, if_pos c17]), rfl⟩
  · refine tr_iconst (v := 1) hC dX9_isCheaper_20 (by decide) ?_
    refine tr_goto hC dX9_isCheaper_21 (tgt := 25) rfl ?_
    exact tr_zret hC hT dX9_isCheaper_25 (nar_b (by decide)) ⟨_, rfl, (by rw [F_X9_isCheaper, if_neg c17]), rfl⟩
set_option maxRecDepth 100000 in
theorem C_X9_price (l : Launch) (mem : TMem)  : TMi l i_X9_price 0 0 [.inr 181] mem (fun x m => x = mem 181 3 ∧ m = mem) := by
  refine tw_met (by decide) (Nat.le_of_ble_eq_true rfl) (fun κ hl hC hT => ?_)
  subst hl
  show WT κ 0 [some (.inr 181)] [] mem
  refine tr_aload_n hC dX9_price_0 rfl rfl ?_
  refine tr_gi (v := mem 181 3) hC dX9_price_1 gf_X9_25 sh_181 rfl rfl ?_
  exact tr_iret hC hT dX9_price_4 ⟨_, rfl, rfl, rfl⟩
set_option maxRecDepth 100000 in
theorem C_X9_end (l : Launch) (mem : TMem)  : TMi l i_X9_end 0 0 [.inr 181] mem (fun x m => x = mem 181 2 ∧ m = mem) := by
  refine tw_met (by decide) (Nat.le_of_ble_eq_true rfl) (fun κ hl hC hT => ?_)
  subst hl
  show WT κ 0 [some (.inr 181)] [] mem
  refine tr_aload_n hC dX9_end_0 rfl rfl ?_
  refine tr_gi (v := mem 181 2) hC dX9_end_1 gf_X9_22 sh_181 rfl rfl ?_
  exact tr_iret hC hT dX9_end_4 ⟨_, rfl, rfl, rfl⟩
set_option maxRecDepth 100000 in
theorem C_X9_begin (l : Launch) (mem : TMem)  : TMi l i_X9_begin 0 0 [.inr 181] mem (fun x m => x = mem 181 1 ∧ m = mem) := by
  refine tw_met (by decide) (Nat.le_of_ble_eq_true rfl) (fun κ hl hC hT => ?_)
  subst hl
  show WT κ 0 [some (.inr 181)] [] mem
  refine tr_aload_n hC dX9_begin_0 rfl rfl ?_
  refine tr_gi (v := mem 181 1) hC dX9_begin_1 gf_X9_18 sh_181 rfl rfl ?_
  exact tr_iret hC hT dX9_begin_4 ⟨_, rfl, rfl, rfl⟩
set_option maxRecDepth 100000 in
theorem C_X0_set (l : Launch) (mem : TMem) (p1 : Int32) (p2 : Int32) (p3 : Int32) : TMv l i_X0_set 0 0 [.inr 186, .inl p1, .inl p2, .inl p3] mem (fun m => m = (mset (mset (mset mem 186 0 p1) 186 1 p2) 186 2 p3)) := by
  refine tw_met (by decide) (Nat.le_of_ble_eq_true rfl) (fun κ hl hC hT => ?_)
  subst hl
  show WT κ 0 [some (.inr 186), some (.inl p1), some (.inl p2), some (.inl p3)] [] mem
  refine tr_aload_n hC dX0_set_0 rfl rfl ?_
  refine tr_iload_n hC dX0_set_1 rfl rfl ?_
  refine tr_puti hC dX0_set_2 gp_X0_9 sh_186 rfl rfl rfl ?_
  refine tr_aload_n hC dX0_set_5 rfl rfl ?_
  refine tr_iload_n hC dX0_set_6 rfl rfl ?_
  refine tr_puti hC dX0_set_7 gp_X0_15 sh_186 rfl rfl rfl ?_
  refine tr_aload_n hC dX0_set_10 rfl rfl ?_
  refine tr_iload_n hC dX0_set_11 rfl rfl ?_
  refine tr_puti hC dX0_set_12 gp_X0_18 sh_186 rfl rfl rfl ?_
  exact tr_vret hC hT dX0_set_15 ⟨rfl, rfl⟩
def F_X10_ears (p1 : Int32) (p2 : Int32) (p3 : Int32) : Int32 := if (F_X10_within p1 1 7) = 0 then (-2) else if (F_X10_within p2 1 5) = 0 then (-2) else if (F_X10_within p3 1 9) = 0 then (-2) else 1
def M_X10_ears (mem : TMem) (p1 : Int32) (p2 : Int32) (p3 : Int32) : TMem := if (F_X10_within p1 1 7) = 0 then mem else if (F_X10_within p2 1 5) = 0 then mem else if (F_X10_within p3 1 9) = 0 then mem else (mset (mset (mset mem 186 0 p1) 186 1 p2) 186 2 p3)
set_option maxRecDepth 100000 in
theorem C_X10_ears (l : Launch) (mem : TMem) (p1 : Int32) (p2 : Int32) (p3 : Int32) : TMi l i_X10_ears 1 23 [.inr 0, .inl p1, .inl p2, .inl p3] mem (fun x m => x = F_X10_ears p1 p2 p3 ∧ m = M_X10_ears mem p1 p2 p3) := by
  refine tw_met (by decide) (Nat.le_of_ble_eq_true rfl) (fun κ hl hC hT => ?_)
  subst hl
  show WT κ 0 [some (.inr 0), some (.inl p1), some (.inl p2), some (.inl p3)] [] mem
  refine tr_iload_n hC dX10_ears_0 rfl rfl ?_
  refine tr_iconst (v := 1) hC dX10_ears_1 (by decide) ?_
  refine tr_bipush (v := 7) hC dX10_ears_2 (by decide) ?_
  refine tr_xSi (As := [.inl p1, .inl 1, .inl 7]) (fr2 := 0) (lo2 := 0) hC dX10_ears_4 mc_X10_94 mst_X10_within ⟨Nat.le_of_ble_eq_true rfl, Nat.le_of_ble_eq_true rfl, Nat.le_of_ble_eq_true rfl⟩ rfl (C_X10_within _ mem p1 1 7) ?_
  refine tr_if_eq hC dX10_ears_7 (tgt := 29) rfl (fun c7 => ?_) (fun c7 => ?_)
  · refine tr_bipush (v := (-2)) hC dX10_ears_29 (by decide) ?_
    exact tr_iret hC hT dX10_ears_31 ⟨_, rfl, (by rw [F_X10_ears, if_pos c7]), (by rw [M_X10_ears, if_pos c7])⟩
  · refine tr_iload_n hC dX10_ears_10 rfl rfl ?_
    refine tr_iconst (v := 1) hC dX10_ears_11 (by decide) ?_
    refine tr_iconst (v := 5) hC dX10_ears_12 (by decide) ?_
    refine tr_xSi (As := [.inl p2, .inl 1, .inl 5]) (fr2 := 0) (lo2 := 0) hC dX10_ears_13 mc_X10_94 mst_X10_within ⟨Nat.le_of_ble_eq_true rfl, Nat.le_of_ble_eq_true rfl, Nat.le_of_ble_eq_true rfl⟩ rfl (C_X10_within _ mem p2 1 5) ?_
    refine tr_if_eq hC dX10_ears_16 (tgt := 29) rfl (fun c16 => ?_) (fun c16 => ?_)
    · refine tr_bipush (v := (-2)) hC dX10_ears_29 (by decide) ?_
      exact tr_iret hC hT dX10_ears_31 ⟨_, rfl, (by rw [F_X10_ears, if_neg c7, if_pos c16]), (by rw [M_X10_ears, if_neg c7, if_pos c16])⟩
    · refine tr_iload_n hC dX10_ears_19 rfl rfl ?_
      refine tr_iconst (v := 1) hC dX10_ears_20 (by decide) ?_
      refine tr_bipush (v := 9) hC dX10_ears_21 (by decide) ?_
      refine tr_xSi (As := [.inl p3, .inl 1, .inl 9]) (fr2 := 0) (lo2 := 0) hC dX10_ears_23 mc_X10_94 mst_X10_within ⟨Nat.le_of_ble_eq_true rfl, Nat.le_of_ble_eq_true rfl, Nat.le_of_ble_eq_true rfl⟩ rfl (C_X10_within _ mem p3 1 9) ?_
      refine tr_if_ne hC dX10_ears_26 (tgt := 32) rfl (fun c26 => ?_) (fun c26 => ?_)
      · refine tr_aload_n hC dX10_ears_32 rfl rfl ?_
        refine tr_getr hC dX10_ears_33 gf_X10_70 sh_0 rfl ?_
        refine tr_iload_n hC dX10_ears_36 rfl rfl ?_
        refine tr_iload_n hC dX10_ears_37 rfl rfl ?_
        refine tr_iload_n hC dX10_ears_38 rfl rfl ?_
        refine tr_xVv (As := [.inl p1, .inl p2, .inl p3]) (fr2 := 0) (lo2 := 0) hC dX10_ears_39 mc_X10_217 mv_X0_set sh_186 rfl ⟨Nat.le_of_ble_eq_true rfl, Nat.le_of_ble_eq_true rfl, Nat.le_of_ble_eq_true rfl⟩ rfl (C_X0_set _ mem p1 p2 p3) ?_
        refine tr_iconst (v := 1) hC dX10_ears_42 (by decide) ?_
        exact tr_iret hC hT dX10_ears_43 ⟨_, rfl, (by rw [F_X10_ears, if_neg c7, if_neg c16, if_neg c26]), (by rw [M_X10_ears, if_neg c7, if_neg c16, if_neg c26])⟩
      · refine tr_bipush (v := (-2)) hC dX10_ears_29 (by decide) ?_
        exact tr_iret hC hT dX10_ears_31 ⟨_, rfl, (by rw [F_X10_ears, if_neg c7, if_neg c16, if_pos c26]), (by rw [M_X10_ears, if_neg c7, if_neg c16, if_pos c26])⟩
def F_X11_ears (p1 : Int32) (p2 : Int32) (p3 : Int32) : Int32 := if (F_X11_in p1 1 7) = 0 then (-2) else if (F_X11_in p2 1 5) = 0 then (-2) else if (F_X11_in p3 1 9) = 0 then (-2) else 1
def M_X11_ears (mem : TMem) (p1 : Int32) (p2 : Int32) (p3 : Int32) : TMem := if (F_X11_in p1 1 7) = 0 then mem else if (F_X11_in p2 1 5) = 0 then mem else if (F_X11_in p3 1 9) = 0 then mem else (mset (mset (mset mem 187 19 p1) 187 20 p2) 187 21 p3)
set_option maxRecDepth 100000 in
theorem C_X11_ears (l : Launch) (mem : TMem) (p1 : Int32) (p2 : Int32) (p3 : Int32) : TMi l i_X11_ears 1 22 [.inr 187, .inl p1, .inl p2, .inl p3] mem (fun x m => x = F_X11_ears p1 p2 p3 ∧ m = M_X11_ears mem p1 p2 p3) := by
  refine tw_met (by decide) (Nat.le_of_ble_eq_true rfl) (fun κ hl hC hT => ?_)
  subst hl
  show WT κ 0 [some (.inr 187), some (.inl p1), some (.inl p2), some (.inl p3)] [] mem
  refine tr_iload_n hC dX11_ears_0 rfl rfl ?_
  refine tr_iconst (v := 1) hC dX11_ears_1 (by decide) ?_
  refine tr_bipush (v := 7) hC dX11_ears_2 (by decide) ?_
  refine tr_xSi (As := [.inl p1, .inl 1, .inl 7]) (fr2 := 0) (lo2 := 0) hC dX11_ears_4 mc_X11_89 mst_X11_in ⟨Nat.le_of_ble_eq_true rfl, Nat.le_of_ble_eq_true rfl, Nat.le_of_ble_eq_true rfl⟩ rfl (C_X11_in _ mem p1 1 7) ?_
  refine tr_if_eq hC dX11_ears_7 (tgt := 29) rfl (fun c7 => ?_) (fun c7 => ?_)
  · refine tr_bipush (v := (-2)) hC dX11_ears_29 (by decide) ?_
    exact tr_iret hC hT dX11_ears_31 ⟨_, rfl, (by rw [F_X11_ears, if_pos c7]), (by rw [M_X11_ears, if_pos c7])⟩
  · refine tr_iload_n hC dX11_ears_10 rfl rfl ?_
    refine tr_iconst (v := 1) hC dX11_ears_11 (by decide) ?_
    refine tr_iconst (v := 5) hC dX11_ears_12 (by decide) ?_
    refine tr_xSi (As := [.inl p2, .inl 1, .inl 5]) (fr2 := 0) (lo2 := 0) hC dX11_ears_13 mc_X11_89 mst_X11_in ⟨Nat.le_of_ble_eq_true rfl, Nat.le_of_ble_eq_true rfl, Nat.le_of_ble_eq_true rfl⟩ rfl (C_X11_in _ mem p2 1 5) ?_
    refine tr_if_eq hC dX11_ears_16 (tgt := 29) rfl (fun c16 => ?_) (fun c16 => ?_)
    · refine tr_bipush (v := (-2)) hC dX11_ears_29 (by decide) ?_
      exact tr_iret hC hT dX11_ears_31 ⟨_, rfl, (by rw [F_X11_ears, if_neg c7, if_pos c16]), (by rw [M_X11_ears, if_neg c7, if_pos c16])⟩
    · refine tr_iload_n hC dX11_ears_19 rfl rfl ?_
      refine tr_iconst (v := 1) hC dX11_ears_20 (by decide) ?_
      refine tr_bipush (v := 9) hC dX11_ears_21 (by decide) ?_
      refine tr_xSi (As := [.inl p3, .inl 1, .inl 9]) (fr2 := 0) (lo2 := 0) hC dX11_ears_23 mc_X11_89 mst_X11_in ⟨Nat.le_of_ble_eq_true rfl, Nat.le_of_ble_eq_true rfl, Nat.le_of_ble_eq_true rfl⟩ rfl (C_X11_in _ mem p3 1 9) ?_
      refine tr_if_ne hC dX11_ears_26 (tgt := 32) rfl (fun c26 => ?_) (fun c26 => ?_)
      · refine tr_aload_n hC dX11_ears_32 rfl rfl ?_
        refine tr_iload_n hC dX11_ears_33 rfl rfl ?_
        refine tr_puti hC dX11_ears_34 gp_X11_53 sh_187 rfl rfl rfl ?_
        refine tr_aload_n hC dX11_ears_37 rfl rfl ?_
        refine tr_iload_n hC dX11_ears_38 rfl rfl ?_
        refine tr_puti hC dX11_ears_39 gp_X11_56 sh_187 rfl rfl rfl ?_
        refine tr_aload_n hC dX11_ears_42 rfl rfl ?_
        refine tr_iload_n hC dX11_ears_43 rfl rfl ?_
        refine tr_puti hC dX11_ears_44 gp_X11_59 sh_187 rfl rfl rfl ?_
        refine tr_iconst (v := 1) hC dX11_ears_47 (by decide) ?_
        exact tr_iret hC hT dX11_ears_48 ⟨_, rfl, (by rw [F_X11_ears, if_neg c7, if_neg c16, if_neg c26]), (by rw [M_X11_ears, if_neg c7, if_neg c16, if_neg c26])⟩
      · refine tr_bipush (v := (-2)) hC dX11_ears_29 (by decide) ?_
        exact tr_iret hC hT dX11_ears_31 ⟨_, rfl, (by rw [F_X11_ears, if_neg c7, if_neg c16, if_pos c26]), (by rw [M_X11_ears, if_neg c7, if_neg c16, if_pos c26])⟩
def G_X0_isLoud (p1 : Int32) : Prop := G_X2_markOf p1
def F_X0_isLoud (mem : TMem) (p1 : Int32) : Int32 := if (mem 2 p1.toNatClampNeg) = (-1) then 0 else if (mem 2 p1.toNatClampNeg) < (mem 186 0) then 0 else 1
theorem B_X0_isLoud (mem : TMem) (p1 : Int32) : F_X0_isLoud mem p1 = 0 ∨ F_X0_isLoud mem p1 = 1 := by
  unfold F_X0_isLoud
  repeat (first | (split) | (exact Or.inl rfl) | (exact Or.inr rfl))
set_option maxRecDepth 100000 in
theorem C_X0_isLoud (l : Launch) (mem : TMem) (p1 : Int32) (hG : G_X0_isLoud p1) : TMi l i_X0_isLoud 1 21 [.inr 186, .inr 1, .inl p1] mem (fun x m => x = F_X0_isLoud mem p1 ∧ m = mem) := by
  refine tw_met (by decide) (Nat.le_of_ble_eq_true rfl) (fun κ hl hC hT => ?_)
  subst hl
  unfold G_X0_isLoud at hG
  show WT κ 0 [some (.inr 186), some (.inr 1), some (.inl p1)] [] mem
  refine tr_aload_n hC dX0_isLoud_0 rfl rfl ?_
  refine tr_iload_n hC dX0_isLoud_1 rfl rfl ?_
  have g1 := hG
  refine tr_xVi (As := [.inl p1]) (fr2 := 0) (lo2 := 0) hC dX0_isLoud_2 mc_X0_31 mv_X2_markOf sh_1 rfl ⟨Nat.le_of_ble_eq_true rfl, Nat.le_of_ble_eq_true rfl, Nat.le_of_ble_eq_true rfl⟩ rfl (C_X2_markOf _ mem p1 g1) ?_
  refine tr_iconst (v := (-1)) hC dX0_isLoud_5 (by decide) ?_
  refine tr_icmp_eq hC dX0_isLoud_6 (tgt := 25) rfl (fun c6 => ?_) (fun c6 => ?_)
  · refine tr_iconst (v := 0) hC dX0_isLoud_25 (by decide) ?_
    exact tr_zret hC hT dX0_isLoud_26 (nar_b (by decide)) ⟨_, rfl, (by rw [F_X0_isLoud, if_pos c6]), rfl⟩
  · refine tr_aload_n hC dX0_isLoud_9 rfl rfl ?_
    refine tr_iload_n hC dX0_isLoud_10 rfl rfl ?_
    refine tr_xVi (As := [.inl p1]) (fr2 := 0) (lo2 := 0) hC dX0_isLoud_11 mc_X0_31 mv_X2_markOf sh_1 rfl ⟨Nat.le_of_ble_eq_true rfl, Nat.le_of_ble_eq_true rfl, Nat.le_of_ble_eq_true rfl⟩ rfl (C_X2_markOf _ mem p1 g1) ?_
    refine tr_aload_n hC dX0_isLoud_14 rfl rfl ?_
    refine tr_gi (v := mem 186 0) hC dX0_isLoud_15 gf_X0_9 sh_186 rfl rfl ?_
    refine tr_icmp_lt hC dX0_isLoud_18 (tgt := 25) rfl (fun c18 => ?_) (fun c18 => ?_)
    · refine tr_iconst (v := 0) hC dX0_isLoud_25 (by decide) ?_
      exact tr_zret hC hT dX0_isLoud_26 (nar_b (by decide)) ⟨_, rfl, (by rw [F_X0_isLoud, if_neg c6, if_pos c18]), rfl⟩
    · refine tr_iconst (v := 1) hC dX0_isLoud_21 (by decide) ?_
      refine tr_goto hC dX0_isLoud_22 (tgt := 26) rfl ?_
      exact tr_zret hC hT dX0_isLoud_26 (nar_b (by decide)) ⟨_, rfl, (by rw [F_X0_isLoud, if_neg c6, if_neg c18]), rfl⟩
def G_X10_count (mem : TMem) (p1 : Int32) : Prop := (¬ (p1 = 0) → ((¬ (p1 = 1) → ((¬ (p1 = 2) → ((¬ (p1 = 3) → ((p1 = 4 → G_X3_stands mem)))))))))
def F_X10_count (mem : TMem) (p1 : Int32) : Int32 := if p1 = 0 then mem 1 2 else if p1 = 1 then mem 10 4 else if p1 = 2 then mem 106 1 else if p1 = 3 then mem 156 3 else if p1 = 4 then if (mem 108 5) = 0 then 0 else 1 else (-2)
set_option maxRecDepth 100000 in
theorem C_X10_count (l : Launch) (mem : TMem) (p1 : Int32) (hG : G_X10_count mem p1) : TMi l i_X10_count 1 20 [.inr 0, .inl p1] mem (fun x m => x = F_X10_count mem p1 ∧ m = mem) := by
  refine tw_met (by decide) (Nat.le_of_ble_eq_true rfl) (fun κ hl hC hT => ?_)
  subst hl
  unfold G_X10_count at hG
  show WT κ 0 [some (.inr 0), some (.inl p1)] [] mem
  refine tr_iload_n hC dX10_count_0 rfl rfl ?_
  by_cases s1_0 : p1 = 0
  · refine tr_tabIn hC dX10_count_1 (by rw [s1_0]; decide) (by rw [s1_0]; decide) (off := 35) (by rw [s1_0]; decide) (tgt := 36) rfl ?_
    refine tr_aload_n hC dX10_count_36 rfl rfl ?_
    refine tr_getr hC dX10_count_37 gf_X10_10 sh_0 rfl ?_
    refine tr_xVi (As := []) (fr2 := 0) (lo2 := 0) hC dX10_count_40 mc_X10_78 mv_X2_frames sh_1 rfl ⟨Nat.le_of_ble_eq_true rfl, Nat.le_of_ble_eq_true rfl, Nat.le_of_ble_eq_true rfl⟩ rfl (C_X2_frames _ mem ) ?_
    exact tr_iret hC hT dX10_count_43 ⟨_, rfl, (by rw [F_X10_count, if_pos s1_0]), rfl⟩
  · have hG := hG s1_0
    by_cases s1_1 : p1 = 1
    · refine tr_tabIn hC dX10_count_1 (by rw [s1_1]; decide) (by rw [s1_1]; decide) (off := 43) (by rw [s1_1]; decide) (tgt := 44) rfl ?_
      refine tr_aload_n hC dX10_count_44 rfl rfl ?_
      refine tr_getr hC dX10_count_45 gf_X10_19 sh_0 rfl ?_
      refine tr_xVi (As := []) (fr2 := 0) (lo2 := 0) hC dX10_count_48 mc_X10_116 mv_X5_words sh_10 rfl ⟨Nat.le_of_ble_eq_true rfl, Nat.le_of_ble_eq_true rfl, Nat.le_of_ble_eq_true rfl⟩ rfl (C_X5_words _ mem ) ?_
      exact tr_iret hC hT dX10_count_51 ⟨_, rfl, (by rw [F_X10_count, if_neg s1_0, if_pos s1_1]), rfl⟩
    · have hG := hG s1_1
      by_cases s1_2 : p1 = 2
      · refine tr_tabIn hC dX10_count_1 (by rw [s1_2]; decide) (by rw [s1_2]; decide) (off := 51) (by rw [s1_2]; decide) (tgt := 52) rfl ?_
        refine tr_aload_n hC dX10_count_52 rfl rfl ?_
        refine tr_getr hC dX10_count_53 gf_X10_35 sh_0 rfl ?_
        refine tr_xVi (As := []) (fr2 := 0) (lo2 := 0) hC dX10_count_56 mc_X10_153 mv_X7_size sh_106 rfl ⟨Nat.le_of_ble_eq_true rfl, Nat.le_of_ble_eq_true rfl, Nat.le_of_ble_eq_true rfl⟩ rfl (C_X7_size_106 _ mem ) ?_
        exact tr_iret hC hT dX10_count_59 ⟨_, rfl, (by rw [F_X10_count, if_neg s1_0, if_neg s1_1, if_pos s1_2]), rfl⟩
      · have hG := hG s1_2
        by_cases s1_3 : p1 = 3
        · refine tr_tabIn hC dX10_count_1 (by rw [s1_3]; decide) (by rw [s1_3]; decide) (off := 59) (by rw [s1_3]; decide) (tgt := 60) rfl ?_
          refine tr_aload_n hC dX10_count_60 rfl rfl ?_
          refine tr_getr hC dX10_count_61 gf_X10_56 sh_0 rfl ?_
          refine tr_xVi (As := []) (fr2 := 0) (lo2 := 0) hC dX10_count_64 mc_X10_193 mv_X4_kept sh_156 rfl ⟨Nat.le_of_ble_eq_true rfl, Nat.le_of_ble_eq_true rfl, Nat.le_of_ble_eq_true rfl⟩ rfl (C_X4_kept _ mem ) ?_
          exact tr_iret hC hT dX10_count_67 ⟨_, rfl, (by rw [F_X10_count, if_neg s1_0, if_neg s1_1, if_neg s1_2, if_pos s1_3]), rfl⟩
        · have hG := hG s1_3
          by_cases s1_4 : p1 = 4
          · have hG := hG s1_4
            refine tr_tabIn hC dX10_count_1 (by rw [s1_4]; decide) (by rw [s1_4]; decide) (off := 67) (by rw [s1_4]; decide) (tgt := 68) rfl ?_
            refine tr_aload_n hC dX10_count_68 rfl rfl ?_
            refine tr_getr hC dX10_count_69 gf_X10_42 sh_0 rfl ?_
            have g1 := hG
            refine tr_xVi (As := []) (fr2 := 0) (lo2 := 0) hC dX10_count_72 mc_X10_172 mv_X3_stands sh_108 rfl ⟨Nat.le_of_ble_eq_true rfl, Nat.le_of_ble_eq_true rfl, Nat.le_of_ble_eq_true rfl⟩ rfl (C_X3_stands _ mem  g1) ?_
            refine tr_if_eq hC dX10_count_75 (tgt := 82) rfl (fun c75 => ?_) (fun c75 => ?_)
            · refine tr_iconst (v := 0) hC dX10_count_82 (by decide) ?_
              exact tr_iret hC hT dX10_count_83 ⟨_, rfl, (by rw [F_X10_count, if_neg s1_0, if_neg s1_1, if_neg s1_2, if_neg s1_3, if_pos s1_4, if_pos c75]), rfl⟩
            · refine tr_iconst (v := 1) hC dX10_count_78 (by decide) ?_
              refine tr_goto hC dX10_count_79 (tgt := 83) rfl ?_
              exact tr_iret hC hT dX10_count_83 ⟨_, rfl, (by rw [F_X10_count, if_neg s1_0, if_neg s1_1, if_neg s1_2, if_neg s1_3, if_pos s1_4, if_neg c75]), rfl⟩
          · refine tr_tabOut hC dX10_count_1 (tgt := 84) (by have := sw_ne s1_0 (z := 0) (by decide); have := sw_ne s1_1 (z := 1) (by decide); have := sw_ne s1_2 (z := 2) (by decide); have := sw_ne s1_3 (z := 3) (by decide); have := sw_ne s1_4 (z := 4) (by decide); omega) rfl ?_
            refine tr_bipush (v := (-2)) hC dX10_count_84 (by decide) ?_
            exact tr_iret hC hT dX10_count_86 ⟨_, rfl, (by rw [F_X10_count, if_neg s1_0, if_neg s1_1, if_neg s1_2, if_neg s1_3, if_neg s1_4]), rfl⟩
def F_X11_count (mem : TMem) (p1 : Int32) : Int32 := if p1 = 0 then mem 187 0 else if p1 = 1 then mem 187 4 else if p1 = 2 then mem 187 9 else if p1 = 3 then mem 187 16 else if p1 = 4 then if (mem 187 11) = 0 then 0 else 1 else (-2)
set_option maxRecDepth 100000 in
theorem C_X11_count (l : Launch) (mem : TMem) (p1 : Int32) : TMi l i_X11_count 0 0 [.inr 187, .inl p1] mem (fun x m => x = F_X11_count mem p1 ∧ m = mem) := by
  refine tw_met (by decide) (Nat.le_of_ble_eq_true rfl) (fun κ hl hC hT => ?_)
  subst hl
  show WT κ 0 [some (.inr 187), some (.inl p1)] [] mem
  refine tr_iload_n hC dX11_count_0 rfl rfl ?_
  by_cases s1_0 : p1 = 0
  · refine tr_tabIn hC dX11_count_1 (by rw [s1_0]; decide) (by rw [s1_0]; decide) (off := 35) (by rw [s1_0]; decide) (tgt := 36) rfl ?_
    refine tr_aload_n hC dX11_count_36 rfl rfl ?_
    refine tr_gi (v := mem 187 0) hC dX11_count_37 gf_X11_93 sh_187 rfl rfl ?_
    exact tr_iret hC hT dX11_count_40 ⟨_, rfl, (by rw [F_X11_count, if_pos s1_0]), rfl⟩
  · by_cases s1_1 : p1 = 1
    · refine tr_tabIn hC dX11_count_1 (by rw [s1_1]; decide) (by rw [s1_1]; decide) (off := 40) (by rw [s1_1]; decide) (tgt := 41) rfl ?_
      refine tr_aload_n hC dX11_count_41 rfl rfl ?_
      refine tr_gi (v := mem 187 4) hC dX11_count_42 gf_X11_104 sh_187 rfl rfl ?_
      exact tr_iret hC hT dX11_count_45 ⟨_, rfl, (by rw [F_X11_count, if_neg s1_0, if_pos s1_1]), rfl⟩
    · by_cases s1_2 : p1 = 2
      · refine tr_tabIn hC dX11_count_1 (by rw [s1_2]; decide) (by rw [s1_2]; decide) (off := 45) (by rw [s1_2]; decide) (tgt := 46) rfl ?_
        refine tr_aload_n hC dX11_count_46 rfl rfl ?_
        refine tr_gi (v := mem 187 9) hC dX11_count_47 gf_X11_160 sh_187 rfl rfl ?_
        exact tr_iret hC hT dX11_count_50 ⟨_, rfl, (by rw [F_X11_count, if_neg s1_0, if_neg s1_1, if_pos s1_2]), rfl⟩
      · by_cases s1_3 : p1 = 3
        · refine tr_tabIn hC dX11_count_1 (by rw [s1_3]; decide) (by rw [s1_3]; decide) (off := 50) (by rw [s1_3]; decide) (tgt := 51) rfl ?_
          refine tr_aload_n hC dX11_count_51 rfl rfl ?_
          refine tr_gi (v := mem 187 16) hC dX11_count_52 gf_X11_179 sh_187 rfl rfl ?_
          exact tr_iret hC hT dX11_count_55 ⟨_, rfl, (by rw [F_X11_count, if_neg s1_0, if_neg s1_1, if_neg s1_2, if_pos s1_3]), rfl⟩
        · by_cases s1_4 : p1 = 4
          · refine tr_tabIn hC dX11_count_1 (by rw [s1_4]; decide) (by rw [s1_4]; decide) (off := 55) (by rw [s1_4]; decide) (tgt := 56) rfl ?_
            refine tr_aload_n hC dX11_count_56 rfl rfl ?_
            refine tr_gi (v := mem 187 11) hC dX11_count_57 gf_X11_96 sh_187 rfl rfl ?_
            refine tr_if_eq hC dX11_count_60 (tgt := 67) rfl (fun c60 => ?_) (fun c60 => ?_)
            · refine tr_iconst (v := 0) hC dX11_count_67 (by decide) ?_
              exact tr_iret hC hT dX11_count_68 ⟨_, rfl, (by rw [F_X11_count, if_neg s1_0, if_neg s1_1, if_neg s1_2, if_neg s1_3, if_pos s1_4, if_pos c60]), rfl⟩
            · refine tr_iconst (v := 1) hC dX11_count_63 (by decide) ?_
              refine tr_goto hC dX11_count_64 (tgt := 68) rfl ?_
              exact tr_iret hC hT dX11_count_68 ⟨_, rfl, (by rw [F_X11_count, if_neg s1_0, if_neg s1_1, if_neg s1_2, if_neg s1_3, if_pos s1_4, if_neg c60]), rfl⟩
          · refine tr_tabOut hC dX11_count_1 (tgt := 69) (by have := sw_ne s1_0 (z := 0) (by decide); have := sw_ne s1_1 (z := 1) (by decide); have := sw_ne s1_2 (z := 2) (by decide); have := sw_ne s1_3 (z := 3) (by decide); have := sw_ne s1_4 (z := 4) (by decide); omega) rfl ?_
            refine tr_bipush (v := (-2)) hC dX11_count_69 (by decide) ?_
            exact tr_iret hC hT dX11_count_71 ⟨_, rfl, (by rw [F_X11_count, if_neg s1_0, if_neg s1_1, if_neg s1_2, if_neg s1_3, if_neg s1_4]), rfl⟩
