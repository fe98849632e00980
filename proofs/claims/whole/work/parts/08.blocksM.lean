set_option maxRecDepth 100000 in
theorem K_X11_layOn_0 {κ : TCx} {post0 : Option TV → TMem → Prop} (hC : TC κ RX11 cX11_layOn 8 1 22) (hT : TR κ none post0) (mem : TMem) (p1 : Int32) (p2 : Int32) (p3 : Int32) (h : WT κ 10 [some (.inr 187), some (.inl p1), none, some (.inl p3), some (.inl ((2 * p1) + p2)), some (.inl 0), none, none] [] mem) : WT κ 0 [some (.inr 187), some (.inl p1), some (.inl p2), some (.inl p3), none, none, none, none] [] mem := by
  refine tr_iconst (v := 2) hC dX11_layOn_0 (by decide) ?_
  refine tr_iload_n hC dX11_layOn_1 rfl rfl ?_
  refine tr_imul hC dX11_layOn_2 ?_
  refine tr_iload_n hC dX11_layOn_3 rfl rfl ?_
  refine tr_iadd hC dX11_layOn_4 ?_
  refine tr_istore (loc2 := [some (.inr 187), some (.inl p1), some (.inl p2), some (.inl p3), some (.inl ((2 * p1) + p2)), none, none, none]) hC dX11_layOn_5 (by decide) rfl ?_
  refine tr_iconst (v := 0) hC dX11_layOn_7 (by decide) ?_
  refine tr_istore (loc2 := [some (.inr 187), some (.inl p1), some (.inl p2), some (.inl p3), some (.inl ((2 * p1) + p2)), some (.inl 0), none, none]) hC dX11_layOn_8 (by decide) rfl ?_
  exact tr_weak (tl_s (tl_s (tl_n (tl_s (tl_s (tl_s (tl_n (tl_n (tl_nil _))))))))) h
set_option maxRecDepth 100000 in
theorem K_X11_layOn_10 {κ : TCx} {post0 : Option TV → TMem → Prop} (hC : TC κ RX11 cX11_layOn 8 1 22) (hT : TR κ none post0) (mem : TMem) (v1 : Int32) (v3 : Int32) (v4 : Int32) (v5 : Int32) (h : (5 ≤ v5 → (WT κ 45 [some (.inr 187), some (.inl v1), none, some (.inl v3), some (.inl v4), some (.inl (v3 + 1)), none, none] [] mem)) ∧ (¬ (5 ≤ v5) → ((v5 = 0 → (vp_in v5 5 ∧ (WT κ 10 [some (.inr 187), some (.inl v1), none, some (.inl v3), some (.inl v4), some (.inl (v5 + 1)), none, none] [] (mset mem 202 v5.toNatClampNeg 0)))) ∧ (¬ (v5 = 0) → (vp_in v5 5 ∧ (WT κ 10 [some (.inr 187), some (.inl v1), none, some (.inl v3), some (.inl v4), some (.inl (v5 + 1)), none, none] [] (mset mem 202 v5.toNatClampNeg 1000000))))))) : WT κ 10 [some (.inr 187), some (.inl v1), none, some (.inl v3), some (.inl v4), some (.inl v5), none, none] [] mem := by
  refine tr_iload hC dX11_layOn_10 rfl ?_
  refine tr_iconst (v := 5) hC dX11_layOn_12 (by decide) ?_
  refine tr_icmp_ge hC dX11_layOn_13 (tgt := 40) rfl (fun c13 => ?_) (fun c13 => ?_)
  · replace h := h.1 c13
    refine tr_iload_n hC dX11_layOn_40 rfl rfl ?_
    refine tr_iconst (v := 1) hC dX11_layOn_41 (by decide) ?_
    refine tr_iadd hC dX11_layOn_42 ?_
    refine tr_istore (loc2 := [some (.inr 187), some (.inl v1), none, some (.inl v3), some (.inl v4), some (.inl (v3 + 1)), none, none]) hC dX11_layOn_43 (by decide) rfl ?_
    exact h
  · replace h := h.2 c13
    refine tr_aload_n hC dX11_layOn_16 rfl rfl ?_
    refine tr_getr hC dX11_layOn_17 gf_X11_65 sh_187 rfl ?_
    refine tr_iload hC dX11_layOn_20 rfl ?_
    refine tr_iload hC dX11_layOn_22 rfl ?_
    refine tr_if_ne hC dX11_layOn_24 (tgt := 31) rfl (fun c24 => ?_) (fun c24 => ?_)
    · replace h := h.2 c24
      refine tr_ldc hC dX11_layOn_31 lc_X11_119 ?_
      obtain ⟨g1, h⟩ := h
      refine tr_iast hC dX11_layOn_33 sh_202 g1 ?_
      refine tr_iinc (v := v5 + 1) (loc2 := [some (.inr 187), some (.inl v1), none, some (.inl v3), some (.inl v4), some (.inl (v5 + 1)), none, none]) hC dX11_layOn_34 rfl rfl (by decide) rfl ?_
      refine tr_goto hC dX11_layOn_37 (tgt := 10) rfl ?_
      exact h
    · replace h := h.1 c24
      refine tr_iconst (v := 0) hC dX11_layOn_27 (by decide) ?_
      refine tr_goto hC dX11_layOn_28 (tgt := 33) rfl ?_
      obtain ⟨g2, h⟩ := h
      refine tr_iast hC dX11_layOn_33 sh_202 g2 ?_
      refine tr_iinc (v := v5 + 1) (loc2 := [some (.inr 187), some (.inl v1), none, some (.inl v3), some (.inl v4), some (.inl (v5 + 1)), none, none]) hC dX11_layOn_34 rfl rfl (by decide) rfl ?_
      refine tr_goto hC dX11_layOn_37 (tgt := 10) rfl ?_
      exact h
set_option maxRecDepth 100000 in
theorem K_X11_layOn_45 {κ : TCx} {post0 : Option TV → TMem → Prop} (hC : TC κ RX11 cX11_layOn 8 1 22) (hT : TR κ none post0) (mem : TMem) (v1 : Int32) (v3 : Int32) (v4 : Int32) (v5 : Int32) (h : ((mem 187 0) < v5 → post0 none mem) ∧ (¬ ((mem 187 0) < v5) → (WT κ 57 [some (.inr 187), some (.inl v1), none, some (.inl v3), some (.inl v4), some (.inl v5), some (.inl 0), none] [] mem))) : WT κ 45 [some (.inr 187), some (.inl v1), none, some (.inl v3), some (.inl v4), some (.inl v5), none, none] [] mem := by
  refine tr_iload hC dX11_layOn_45 rfl ?_
  refine tr_aload_n hC dX11_layOn_47 rfl rfl ?_
  refine tr_gi (v := mem 187 0) hC dX11_layOn_48 gf_X11_93 sh_187 rfl rfl ?_
  refine tr_icmp_gt hC dX11_layOn_51 (tgt := 220) rfl (fun c51 => ?_) (fun c51 => ?_)
  · replace h := h.1 c51
    exact tr_vret hC hT dX11_layOn_220 h
  · replace h := h.2 c51
    refine tr_iconst (v := 0) hC dX11_layOn_54 (by decide) ?_
    refine tr_istore (loc2 := [some (.inr 187), some (.inl v1), none, some (.inl v3), some (.inl v4), some (.inl v5), some (.inl 0), none]) hC dX11_layOn_55 (by decide) rfl ?_
    exact h
set_option maxRecDepth 100000 in
theorem K_X11_layOn_57 {κ : TCx} {post0 : Option TV → TMem → Prop} (hC : TC κ RX11 cX11_layOn 8 1 22) (hT : TR κ none post0) (mem : TMem) (v1 : Int32) (v3 : Int32) (v4 : Int32) (v5 : Int32) (v6 : Int32) (h : (5 ≤ v6 → (WT κ 95 [some (.inr 187), some (.inl v1), none, some (.inl v3), some (.inl v4), some (.inl v5), some (.inl 1), none] [] mem)) ∧ (¬ (5 ≤ v6) → (vp_in v6 5 ∧ (WT κ 57 [some (.inr 187), some (.inl v1), none, some (.inl v3), some (.inl v4), some (.inl v5), some (.inl (v6 + 1)), none] [] (mset (mset mem 203 v6.toNatClampNeg (mem 202 v6.toNatClampNeg)) 202 v6.toNatClampNeg 1000000))))) : WT κ 57 [some (.inr 187), some (.inl v1), none, some (.inl v3), some (.inl v4), some (.inl v5), some (.inl v6), none] [] mem := by
  refine tr_iload hC dX11_layOn_57 rfl ?_
  refine tr_iconst (v := 5) hC dX11_layOn_59 (by decide) ?_
  refine tr_icmp_ge hC dX11_layOn_60 (tgt := 92) rfl (fun c60 => ?_) (fun c60 => ?_)
  · replace h := h.1 c60
    refine tr_iconst (v := 1) hC dX11_layOn_92 (by decide) ?_
    refine tr_istore (loc2 := [some (.inr 187), some (.inl v1), none, some (.inl v3), some (.inl v4), some (.inl v5), some (.inl 1), none]) hC dX11_layOn_93 (by decide) rfl ?_
    exact h
  · replace h := h.2 c60
    refine tr_aload_n hC dX11_layOn_63 rfl rfl ?_
    refine tr_getr hC dX11_layOn_64 gf_X11_68 sh_187 rfl ?_
    refine tr_iload hC dX11_layOn_67 rfl ?_
    refine tr_aload_n hC dX11_layOn_69 rfl rfl ?_
    refine tr_getr hC dX11_layOn_70 gf_X11_65 sh_187 rfl ?_
    refine tr_iload hC dX11_layOn_73 rfl ?_
    obtain ⟨g1, h⟩ := h
    refine tr_al (v := mem 202 v6.toNatClampNeg) hC dX11_layOn_75 sh_202 g1 rfl ?_
    refine tr_iast hC dX11_layOn_76 sh_203 g1 ?_
    refine tr_aload_n hC dX11_layOn_77 rfl rfl ?_
    refine tr_getr hC dX11_layOn_78 gf_X11_65 sh_187 rfl ?_
    refine tr_iload hC dX11_layOn_81 rfl ?_
    refine tr_ldc hC dX11_layOn_83 lc_X11_119 ?_
    refine tr_iast hC dX11_layOn_85 sh_202 g1 ?_
    refine tr_iinc (v := v6 + 1) (loc2 := [some (.inr 187), some (.inl v1), none, some (.inl v3), some (.inl v4), some (.inl v5), some (.inl (v6 + 1)), none]) hC dX11_layOn_86 rfl rfl (by decide) rfl ?_
    refine tr_goto hC dX11_layOn_89 (tgt := 57) rfl ?_
    exact h
set_option maxRecDepth 100000 in
theorem K_X11_layOn_95 {κ : TCx} {post0 : Option TV → TMem → Prop} (hC : TC κ RX11 cX11_layOn 8 1 22) (hT : TR κ none post0) (mem : TMem) (v1 : Int32) (v3 : Int32) (v4 : Int32) (v5 : Int32) (v6 : Int32) (h : vp_in v4 16 ∧ (((mem 191 v4.toNatClampNeg) < v6 → ((vp_in ((((41 * v1) + v3) * 41) + v5) 13448) ∧ (vp_in (mem 191 v4.toNatClampNeg) 5 ∧ (WT κ 45 [some (.inr 187), some (.inl v1), none, some (.inl v3), some (.inl v4), some (.inl (v5 + 1)), none, none] [] (mset mem 201 (Int32.toNatClampNeg ((((41 * v1) + v3) * 41) + v5)) (F_X11_lesser (mem 201 (Int32.toNatClampNeg ((((41 * v1) + v3) * 41) + v5))) (mem 202 (Int32.toNatClampNeg (mem 191 v4.toNatClampNeg))))))))) ∧ (¬ ((mem 191 v4.toNatClampNeg) < v6) → (vp_in v6 5 ∧ ((vp_in (v6 - 1) 5) ∧ ((vp_in (((4 * v4) + v6) - 1) 64) ∧ ((G_X11_costOf mem (mem 192 (Int32.toNatClampNeg (((4 * v4) + v6) - 1))) (v5 - 1)) ∧ (WT κ 95 [some (.inr 187), some (.inl v1), none, some (.inl v3), some (.inl v4), some (.inl v5), some (.inl (v6 + 1)), none] [] (mset mem 202 v6.toNatClampNeg (F_X11_lesser 1000000 ((F_X11_lesser ((mem 203 v6.toNatClampNeg) + (mem 187 3)) (mem 203 (Int32.toNatClampNeg (v6 - 1)))) + (F_X11_costOf mem (mem 192 (Int32.toNatClampNeg (((4 * v4) + v6) - 1))) (v5 - 1))))))))))))) : WT κ 95 [some (.inr 187), some (.inl v1), none, some (.inl v3), some (.inl v4), some (.inl v5), some (.inl v6), none] [] mem := by
  refine tr_iload hC dX11_layOn_95 rfl ?_
  refine tr_aload_n hC dX11_layOn_97 rfl rfl ?_
  refine tr_getr hC dX11_layOn_98 gf_X11_23 sh_187 rfl ?_
  refine tr_iload hC dX11_layOn_101 rfl ?_
  obtain ⟨g1, h⟩ := h
  refine tr_al (v := mem 191 v4.toNatClampNeg) hC dX11_layOn_103 sh_191 g1 rfl ?_
  refine tr_icmp_gt hC dX11_layOn_104 (tgt := 176) rfl (fun c104 => ?_) (fun c104 => ?_)
  · replace h := h.1 c104
    refine tr_iload_n hC dX11_layOn_176 rfl rfl ?_
    refine tr_iload_n hC dX11_layOn_177 rfl rfl ?_
    refine tr_iload hC dX11_layOn_178 rfl ?_
    refine tr_xSi (As := [.inl v1, .inl v3, .inl v5]) (fr2 := 0) (lo2 := 0) hC dX11_layOn_180 mc_X11_126 mst_X11_onAt ⟨Nat.le_of_ble_eq_true rfl, Nat.le_of_ble_eq_true rfl, Nat.le_of_ble_eq_true rfl⟩ rfl (C_X11_onAt _ mem v1 v3 v5) ?_
    refine tr_istore (loc2 := [some (.inr 187), some (.inl v1), none, some (.inl v3), some (.inl v4), some (.inl v5), some (.inl ((((41 * v1) + v3) * 41) + v5)), none]) hC dX11_layOn_183 (by decide) rfl ?_
    refine tr_aload_n hC dX11_layOn_185 rfl rfl ?_
    refine tr_getr hC dX11_layOn_186 gf_X11_62 sh_187 rfl ?_
    refine tr_iload hC dX11_layOn_189 rfl ?_
    refine tr_aload_n hC dX11_layOn_191 rfl rfl ?_
    refine tr_getr hC dX11_layOn_192 gf_X11_62 sh_187 rfl ?_
    refine tr_iload hC dX11_layOn_195 rfl ?_
    obtain ⟨g2, h⟩ := h
    refine tr_al (v := mem 201 (Int32.toNatClampNeg ((((41 * v1) + v3) * 41) + v5))) hC dX11_layOn_197 sh_201 g2 rfl ?_
    refine tr_aload_n hC dX11_layOn_198 rfl rfl ?_
    refine tr_getr hC dX11_layOn_199 gf_X11_65 sh_187 rfl ?_
    refine tr_aload_n hC dX11_layOn_202 rfl rfl ?_
    refine tr_getr hC dX11_layOn_203 gf_X11_23 sh_187 rfl ?_
    refine tr_iload hC dX11_layOn_206 rfl ?_
    refine tr_al (v := mem 191 v4.toNatClampNeg) hC dX11_layOn_208 sh_191 g1 rfl ?_
    obtain ⟨g3, h⟩ := h
    refine tr_al (v := mem 202 (Int32.toNatClampNeg (mem 191 v4.toNatClampNeg))) hC dX11_layOn_209 sh_202 g3 rfl ?_
    refine tr_xSi (As := [.inl (mem 201 (Int32.toNatClampNeg ((((41 * v1) + v3) * 41) + v5))), .inl (mem 202 (Int32.toNatClampNeg (mem 191 v4.toNatClampNeg)))]) (fr2 := 0) (lo2 := 0) hC dX11_layOn_210 mc_X11_120 mst_X11_lesser ⟨Nat.le_of_ble_eq_true rfl, Nat.le_of_ble_eq_true rfl, Nat.le_of_ble_eq_true rfl⟩ rfl (C_X11_lesser _ mem (mem 201 (Int32.toNatClampNeg ((((41 * v1) + v3) * 41) + v5))) (mem 202 (Int32.toNatClampNeg (mem 191 v4.toNatClampNeg)))) ?_
    refine tr_iast hC dX11_layOn_213 sh_201 g2 ?_
    refine tr_iinc (v := v5 + 1) (loc2 := [some (.inr 187), some (.inl v1), none, some (.inl v3), some (.inl v4), some (.inl (v5 + 1)), some (.inl ((((41 * v1) + v3) * 41) + v5)), none]) hC dX11_layOn_214 rfl rfl (by decide) rfl ?_
    refine tr_goto hC dX11_layOn_217 (tgt := 45) rfl ?_
    exact tr_weak (tl_s (tl_s (tl_n (tl_s (tl_s (tl_s (tl_n (tl_n (tl_nil _))))))))) h
  · replace h := h.2 c104
    refine tr_aload_n hC dX11_layOn_107 rfl rfl ?_
    refine tr_getr hC dX11_layOn_108 gf_X11_68 sh_187 rfl ?_
    refine tr_iload hC dX11_layOn_111 rfl ?_
    obtain ⟨g4, h⟩ := h
    refine tr_al (v := mem 203 v6.toNatClampNeg) hC dX11_layOn_113 sh_203 g4 rfl ?_
    refine tr_aload_n hC dX11_layOn_114 rfl rfl ?_
    refine tr_gi (v := mem 187 3) hC dX11_layOn_115 gf_X11_16 sh_187 rfl rfl ?_
    refine tr_iadd hC dX11_layOn_118 ?_
    refine tr_aload_n hC dX11_layOn_119 rfl rfl ?_
    refine tr_getr hC dX11_layOn_120 gf_X11_68 sh_187 rfl ?_
    refine tr_iload hC dX11_layOn_123 rfl ?_
    refine tr_iconst (v := 1) hC dX11_layOn_125 (by decide) ?_
    refine tr_isub hC dX11_layOn_126 ?_
    obtain ⟨g5, h⟩ := h
    refine tr_al (v := mem 203 (Int32.toNatClampNeg (v6 - 1))) hC dX11_layOn_127 sh_203 g5 rfl ?_
    refine tr_xSi (As := [.inl ((mem 203 v6.toNatClampNeg) + (mem 187 3)), .inl (mem 203 (Int32.toNatClampNeg (v6 - 1)))]) (fr2 := 0) (lo2 := 0) hC dX11_layOn_128 mc_X11_120 mst_X11_lesser ⟨Nat.le_of_ble_eq_true rfl, Nat.le_of_ble_eq_true rfl, Nat.le_of_ble_eq_true rfl⟩ rfl (C_X11_lesser _ mem ((mem 203 v6.toNatClampNeg) + (mem 187 3)) (mem 203 (Int32.toNatClampNeg (v6 - 1)))) ?_
    refine tr_istore (loc2 := [some (.inr 187), some (.inl v1), none, some (.inl v3), some (.inl v4), some (.inl v5), some (.inl v6), some (.inl (F_X11_lesser ((mem 203 v6.toNatClampNeg) + (mem 187 3)) (mem 203 (Int32.toNatClampNeg (v6 - 1)))))]) hC dX11_layOn_131 (by decide) rfl ?_
    refine tr_aload_n hC dX11_layOn_133 rfl rfl ?_
    refine tr_getr hC dX11_layOn_134 gf_X11_65 sh_187 rfl ?_
    refine tr_iload hC dX11_layOn_137 rfl ?_
    refine tr_ldc hC dX11_layOn_139 lc_X11_119 ?_
    refine tr_iload hC dX11_layOn_141 rfl ?_
    refine tr_aload_n hC dX11_layOn_143 rfl rfl ?_
    refine tr_aload_n hC dX11_layOn_144 rfl rfl ?_
    refine tr_getr hC dX11_layOn_145 gf_X11_26 sh_187 rfl ?_
    refine tr_iconst (v := 4) hC dX11_layOn_148 (by decide) ?_
    refine tr_iload hC dX11_layOn_149 rfl ?_
    refine tr_imul hC dX11_layOn_151 ?_
    refine tr_iload hC dX11_layOn_152 rfl ?_
    refine tr_iadd hC dX11_layOn_154 ?_
    refine tr_iconst (v := 1) hC dX11_layOn_155 (by decide) ?_
    refine tr_isub hC dX11_layOn_156 ?_
    obtain ⟨g6, h⟩ := h
    refine tr_al (v := mem 192 (Int32.toNatClampNeg (((4 * v4) + v6) - 1))) hC dX11_layOn_157 sh_192 g6 rfl ?_
    refine tr_iload hC dX11_layOn_158 rfl ?_
    refine tr_iconst (v := 1) hC dX11_layOn_160 (by decide) ?_
    refine tr_isub hC dX11_layOn_161 ?_
    obtain ⟨g7, h⟩ := h
    refine tr_xVi (As := [.inl (mem 192 (Int32.toNatClampNeg (((4 * v4) + v6) - 1))), .inl (v5 - 1)]) (fr2 := 0) (lo2 := 0) hC dX11_layOn_162 mc_X11_123 mv_X11_costOf sh_187 rfl ⟨Nat.le_of_ble_eq_true rfl, Nat.le_of_ble_eq_true rfl, Nat.le_of_ble_eq_true rfl⟩ rfl (C_X11_costOf _ mem (mem 192 (Int32.toNatClampNeg (((4 * v4) + v6) - 1))) (v5 - 1) g7) ?_
    refine tr_iadd hC dX11_layOn_165 ?_
    refine tr_xSi (As := [.inl 1000000, .inl ((F_X11_lesser ((mem 203 v6.toNatClampNeg) + (mem 187 3)) (mem 203 (Int32.toNatClampNeg (v6 - 1)))) + (F_X11_costOf mem (mem 192 (Int32.toNatClampNeg (((4 * v4) + v6) - 1))) (v5 - 1)))]) (fr2 := 0) (lo2 := 0) hC dX11_layOn_166 mc_X11_120 mst_X11_lesser ⟨Nat.le_of_ble_eq_true rfl, Nat.le_of_ble_eq_true rfl, Nat.le_of_ble_eq_true rfl⟩ rfl (C_X11_lesser _ mem 1000000 ((F_X11_lesser ((mem 203 v6.toNatClampNeg) + (mem 187 3)) (mem 203 (Int32.toNatClampNeg (v6 - 1)))) + (F_X11_costOf mem (mem 192 (Int32.toNatClampNeg (((4 * v4) + v6) - 1))) (v5 - 1)))) ?_
    refine tr_iast hC dX11_layOn_169 sh_202 g4 ?_
    refine tr_iinc (v := v6 + 1) (loc2 := [some (.inr 187), some (.inl v1), none, some (.inl v3), some (.inl v4), some (.inl v5), some (.inl (v6 + 1)), some (.inl (F_X11_lesser ((mem 203 v6.toNatClampNeg) + (mem 187 3)) (mem 203 (Int32.toNatClampNeg (v6 - 1)))))]) hC dX11_layOn_170 rfl rfl (by decide) rfl ?_
    refine tr_goto hC dX11_layOn_173 (tgt := 95) rfl ?_
    exact tr_weak (tl_s (tl_s (tl_n (tl_s (tl_s (tl_s (tl_s (tl_n (tl_nil _))))))))) h
set_option maxRecDepth 100000 in
theorem K_X11_layAll_0 {κ : TCx} {post0 : Option TV → TMem → Prop} (hC : TC κ RX11 cX11_layAll 4 2 49) (hT : TR κ none post0) (mem : TMem) (h : WT κ 2 [some (.inr 187), some (.inl 0), none, none] [] mem) : WT κ 0 [some (.inr 187), none, none, none] [] mem := by
  refine tr_iconst (v := 0) hC dX11_layAll_0 (by decide) ?_
  refine tr_istore_n (loc2 := [some (.inr 187), some (.inl 0), none, none]) hC dX11_layAll_1 rfl (by decide) rfl ?_
  exact h
set_option maxRecDepth 100000 in
theorem K_X11_layAll_2 {κ : TCx} {post0 : Option TV → TMem → Prop} (hC : TC κ RX11 cX11_layAll 4 2 49) (hT : TR κ none post0) (mem : TMem) (v1 : Int32) (h : (13448 ≤ v1 → (WT κ 25 [some (.inr 187), some (.inl 0), none, none] [] mem)) ∧ (¬ (13448 ≤ v1) → (vp_in v1 13448 ∧ (WT κ 2 [some (.inr 187), some (.inl (v1 + 1)), none, none] [] (mset mem 201 v1.toNatClampNeg 1000000))))) : WT κ 2 [some (.inr 187), some (.inl v1), none, none] [] mem := by
  refine tr_iload_n hC dX11_layAll_2 rfl rfl ?_
  refine tr_sipush (v := 13448) hC dX11_layAll_3 (by decide) ?_
  refine tr_icmp_ge hC dX11_layAll_6 (tgt := 23) rfl (fun c6 => ?_) (fun c6 => ?_)
  · replace h := h.1 c6
    refine tr_iconst (v := 0) hC dX11_layAll_23 (by decide) ?_
    refine tr_istore_n (loc2 := [some (.inr 187), some (.inl 0), none, none]) hC dX11_layAll_24 rfl (by decide) rfl ?_
    exact h
  · replace h := h.2 c6
    refine tr_aload_n hC dX11_layAll_9 rfl rfl ?_
    refine tr_getr hC dX11_layAll_10 gf_X11_62 sh_187 rfl ?_
    refine tr_iload_n hC dX11_layAll_13 rfl rfl ?_
    refine tr_ldc hC dX11_layAll_14 lc_X11_119 ?_
    obtain ⟨g1, h⟩ := h
    refine tr_iast hC dX11_layAll_16 sh_201 g1 ?_
    refine tr_iinc (v := v1 + 1) (loc2 := [some (.inr 187), some (.inl (v1 + 1)), none, none]) hC dX11_layAll_17 rfl rfl (by decide) rfl ?_
    refine tr_goto hC dX11_layAll_20 (tgt := 2) rfl ?_
    exact h
set_option maxRecDepth 100000 in
theorem K_X11_layAll_25 {κ : TCx} {post0 : Option TV → TMem → Prop} (hC : TC κ RX11 cX11_layAll 4 2 49) (hT : TR κ none post0) (mem : TMem) (v1 : Int32) (h : ((mem 187 4) ≤ v1 → post0 none mem) ∧ (¬ ((mem 187 4) ≤ v1) → (WT κ 35 [some (.inr 187), some (.inl v1), some (.inl 0), none] [] mem))) : WT κ 25 [some (.inr 187), some (.inl v1), none, none] [] mem := by
  refine tr_iload_n hC dX11_layAll_25 rfl rfl ?_
  refine tr_aload_n hC dX11_layAll_26 rfl rfl ?_
  refine tr_gi (v := mem 187 4) hC dX11_layAll_27 gf_X11_104 sh_187 rfl rfl ?_
  refine tr_icmp_ge hC dX11_layAll_30 (tgt := 80) rfl (fun c30 => ?_) (fun c30 => ?_)
  · replace h := h.1 c30
    exact tr_vret hC hT dX11_layAll_80 h
  · replace h := h.2 c30
    refine tr_iconst (v := 0) hC dX11_layAll_33 (by decide) ?_
    refine tr_istore_n (loc2 := [some (.inr 187), some (.inl v1), some (.inl 0), none]) hC dX11_layAll_34 rfl (by decide) rfl ?_
    exact h
set_option maxRecDepth 100000 in
theorem K_X11_layAll_35 {κ : TCx} {post0 : Option TV → TMem → Prop} (hC : TC κ RX11 cX11_layAll 4 2 49) (hT : TR κ none post0) (mem : TMem) (v1 : Int32) (v2 : Int32) (h : vp_in v1 8 ∧ (((mem 190 v1.toNatClampNeg) ≤ v2 → (WT κ 25 [some (.inr 187), some (.inl (v1 + 1)), none, none] [] mem)) ∧ (¬ ((mem 190 v1.toNatClampNeg) ≤ v2) → (WT κ 47 [some (.inr 187), some (.inl v1), some (.inl v2), some (.inl 0)] [] mem)))) : WT κ 35 [some (.inr 187), some (.inl v1), some (.inl v2), none] [] mem := by
  refine tr_iload_n hC dX11_layAll_35 rfl rfl ?_
  refine tr_aload_n hC dX11_layAll_36 rfl rfl ?_
  refine tr_getr hC dX11_layAll_37 gf_X11_20 sh_187 rfl ?_
  refine tr_iload_n hC dX11_layAll_40 rfl rfl ?_
  obtain ⟨g1, h⟩ := h
  refine tr_al (v := mem 190 v1.toNatClampNeg) hC dX11_layAll_41 sh_190 g1 rfl ?_
  refine tr_icmp_ge hC dX11_layAll_42 (tgt := 74) rfl (fun c42 => ?_) (fun c42 => ?_)
  · replace h := h.1 c42
    refine tr_iinc (v := v1 + 1) (loc2 := [some (.inr 187), some (.inl (v1 + 1)), some (.inl v2), none]) hC dX11_layAll_74 rfl rfl (by decide) rfl ?_
    refine tr_goto hC dX11_layAll_77 (tgt := 25) rfl ?_
    exact tr_weak (tl_s (tl_s (tl_n (tl_n (tl_nil _))))) h
  · replace h := h.2 c42
    refine tr_iconst (v := 0) hC dX11_layAll_45 (by decide) ?_
    refine tr_istore_n (loc2 := [some (.inr 187), some (.inl v1), some (.inl v2), some (.inl 0)]) hC dX11_layAll_46 rfl (by decide) rfl ?_
    exact h
set_option maxRecDepth 100000 in
theorem K_X11_layAll_47 {κ : TCx} {post0 : Option TV → TMem → Prop} (hC : TC κ RX11 cX11_layAll 4 2 49) (hT : TR κ none post0) (mem : TMem) (v1 : Int32) (v2 : Int32) (v3 : Int32) (h : ((mem 187 0) ≤ v3 → (WT κ 35 [some (.inr 187), some (.inl v1), some (.inl (v2 + 1)), none] [] mem)) ∧ (¬ ((mem 187 0) ≤ v3) → (∃ post : TMem → Prop, TMv κ.1.2.1 i_X11_layOn 1 22 [.inr 187, .inl v1, .inl v2, .inl v3] mem post ∧ ∀ (m59 : TMem), post m59 → (WT κ 47 [some (.inr 187), some (.inl v1), some (.inl v2), some (.inl (v3 + 1))] [] m59)))) : WT κ 47 [some (.inr 187), some (.inl v1), some (.inl v2), some (.inl v3)] [] mem := by
  refine tr_iload_n hC dX11_layAll_47 rfl rfl ?_
  refine tr_aload_n hC dX11_layAll_48 rfl rfl ?_
  refine tr_gi (v := mem 187 0) hC dX11_layAll_49 gf_X11_93 sh_187 rfl rfl ?_
  refine tr_icmp_ge hC dX11_layAll_52 (tgt := 68) rfl (fun c52 => ?_) (fun c52 => ?_)
  · replace h := h.1 c52
    refine tr_iinc (v := v2 + 1) (loc2 := [some (.inr 187), some (.inl v1), some (.inl (v2 + 1)), some (.inl v3)]) hC dX11_layAll_68 rfl rfl (by decide) rfl ?_
    refine tr_goto hC dX11_layAll_71 (tgt := 35) rfl ?_
    exact tr_weak (tl_s (tl_s (tl_s (tl_n (tl_nil _))))) h
  · replace h := h.2 c52
    refine tr_aload_n hC dX11_layAll_55 rfl rfl ?_
    refine tr_iload_n hC dX11_layAll_56 rfl rfl ?_
    refine tr_iload_n hC dX11_layAll_57 rfl rfl ?_
    refine tr_iload_n hC dX11_layAll_58 rfl rfl ?_
    obtain ⟨post59, hM59, h⟩ := h
    refine tr_cVv (As := [.inl v1, .inl v2, .inl v3]) (fr2 := 1) (lo2 := 22) hC dX11_layAll_59 mc_X11_130 mv_X11_layOn sh_187 rfl ⟨Nat.le_of_ble_eq_true rfl, Nat.le_of_ble_eq_true rfl, Nat.le_of_ble_eq_true rfl⟩ rfl hM59 (fun m59 hp59 => ?_)
    replace h := h m59 hp59
    refine tr_iinc (v := v3 + 1) (loc2 := [some (.inr 187), some (.inl v1), some (.inl v2), some (.inl (v3 + 1))]) hC dX11_layAll_62 rfl rfl (by decide) rfl ?_
    refine tr_goto hC dX11_layAll_65 (tgt := 47) rfl ?_
    exact h
set_option maxRecDepth 100000 in
theorem K_X11_withNext_0 {κ : TCx} {post0 : Option TV → TMem → Prop} (hC : TC κ RX11 cX11_withNext 6 1 22) (hT : TR κ (some .int) post0) (mem : TMem) (p1 : Int32) (p2 : Int32) (p3 : Int32) (h : G_X11_behind p2 p3 ∧ ((0 ≤ (F_X11_behind mem p2 p3) → (WT κ 21 [some (.inr 187), some (.inl p1), some (.inl p2), some (.inl p3), some (.inl 1000000), some (.inl (p1 + 1))] [] mem)) ∧ (¬ (0 ≤ (F_X11_behind mem p2 p3)) → post0 (some (.inl 1000000)) mem))) : WT κ 0 [some (.inr 187), some (.inl p1), some (.inl p2), some (.inl p3), none, none] [] mem := by
  refine tr_aload_n hC dX11_withNext_0 rfl rfl ?_
  refine tr_iload_n hC dX11_withNext_1 rfl rfl ?_
  refine tr_iload_n hC dX11_withNext_2 rfl rfl ?_
  obtain ⟨g1, h⟩ := h
  refine tr_xVi (As := [.inl p2, .inl p3]) (fr2 := 0) (lo2 := 0) hC dX11_withNext_3 mc_X11_115 mv_X11_behind sh_187 rfl ⟨Nat.le_of_ble_eq_true rfl, Nat.le_of_ble_eq_true rfl, Nat.le_of_ble_eq_true rfl⟩ rfl (C_X11_behind _ mem p2 p3 g1) ?_
  refine tr_if_ge hC dX11_withNext_6 (tgt := 12) rfl (fun c6 => ?_) (fun c6 => ?_)
  · replace h := h.1 c6
    refine tr_ldc hC dX11_withNext_12 lc_X11_119 ?_
    refine tr_istore (loc2 := [some (.inr 187), some (.inl p1), some (.inl p2), some (.inl p3), some (.inl 1000000), none]) hC dX11_withNext_14 (by decide) rfl ?_
    refine tr_iload_n hC dX11_withNext_16 rfl rfl ?_
    refine tr_iconst (v := 1) hC dX11_withNext_17 (by decide) ?_
    refine tr_iadd hC dX11_withNext_18 ?_
    refine tr_istore (loc2 := [some (.inr 187), some (.inl p1), some (.inl p2), some (.inl p3), some (.inl 1000000), some (.inl (p1 + 1))]) hC dX11_withNext_19 (by decide) rfl ?_
    exact h
  · replace h := h.2 c6
    refine tr_ldc hC dX11_withNext_9 lc_X11_119 ?_
    exact tr_iret hC hT dX11_withNext_11 h
set_option maxRecDepth 100000 in
theorem K_X11_withNext_21 {κ : TCx} {post0 : Option TV → TMem → Prop} (hC : TC κ RX11 cX11_withNext 6 1 22) (hT : TR κ (some .int) post0) (mem : TMem) (v1 : Int32) (v2 : Int32) (v3 : Int32) (v4 : Int32) (v5 : Int32) (h : ((mem 187 0) < v5 → (G_X11_behind v2 v3 ∧ (post0 (some (.inl (F_X11_lesser 1000000 (v4 + (F_X11_behind mem v2 v3))))) mem))) ∧ (¬ ((mem 187 0) < v5) → ((vp_in ((((41 * v3) + v1) * 41) + v5) 13448) ∧ (G_X11_restAt v5 v3 ∧ (WT κ 21 [some (.inr 187), some (.inl v1), some (.inl v2), some (.inl v3), some (.inl (F_X11_lesser v4 ((mem 201 (Int32.toNatClampNeg ((((41 * v3) + v1) * 41) + v5))) + (F_X11_restAt mem v5 v3)))), some (.inl (v5 + 1))] [] mem))))) : WT κ 21 [some (.inr 187), some (.inl v1), some (.inl v2), some (.inl v3), some (.inl v4), some (.inl v5)] [] mem := by
  refine tr_iload hC dX11_withNext_21 rfl ?_
  refine tr_aload_n hC dX11_withNext_23 rfl rfl ?_
  refine tr_gi (v := mem 187 0) hC dX11_withNext_24 gf_X11_93 sh_187 rfl rfl ?_
  refine tr_icmp_gt hC dX11_withNext_27 (tgt := 63) rfl (fun c27 => ?_) (fun c27 => ?_)
  · replace h := h.1 c27
    refine tr_ldc hC dX11_withNext_63 lc_X11_119 ?_
    refine tr_iload hC dX11_withNext_65 rfl ?_
    refine tr_aload_n hC dX11_withNext_67 rfl rfl ?_
    refine tr_iload_n hC dX11_withNext_68 rfl rfl ?_
    refine tr_iload_n hC dX11_withNext_69 rfl rfl ?_
    obtain ⟨g1, h⟩ := h
    refine tr_xVi (As := [.inl v2, .inl v3]) (fr2 := 0) (lo2 := 0) hC dX11_withNext_70 mc_X11_115 mv_X11_behind sh_187 rfl ⟨Nat.le_of_ble_eq_true rfl, Nat.le_of_ble_eq_true rfl, Nat.le_of_ble_eq_true rfl⟩ rfl (C_X11_behind _ mem v2 v3 g1) ?_
    refine tr_iadd hC dX11_withNext_73 ?_
    refine tr_xSi (As := [.inl 1000000, .inl (v4 + (F_X11_behind mem v2 v3))]) (fr2 := 0) (lo2 := 0) hC dX11_withNext_74 mc_X11_120 mst_X11_lesser ⟨Nat.le_of_ble_eq_true rfl, Nat.le_of_ble_eq_true rfl, Nat.le_of_ble_eq_true rfl⟩ rfl (C_X11_lesser _ mem 1000000 (v4 + (F_X11_behind mem v2 v3))) ?_
    exact tr_iret hC hT dX11_withNext_77 h
  · replace h := h.2 c27
    refine tr_iload hC dX11_withNext_30 rfl ?_
    refine tr_aload_n hC dX11_withNext_32 rfl rfl ?_
    refine tr_getr hC dX11_withNext_33 gf_X11_62 sh_187 rfl ?_
    refine tr_iload_n hC dX11_withNext_36 rfl rfl ?_
    refine tr_iload_n hC dX11_withNext_37 rfl rfl ?_
    refine tr_iload hC dX11_withNext_38 rfl ?_
    refine tr_xSi (As := [.inl v3, .inl v1, .inl v5]) (fr2 := 0) (lo2 := 0) hC dX11_withNext_40 mc_X11_126 mst_X11_onAt ⟨Nat.le_of_ble_eq_true rfl, Nat.le_of_ble_eq_true rfl, Nat.le_of_ble_eq_true rfl⟩ rfl (C_X11_onAt _ mem v3 v1 v5) ?_
    obtain ⟨g2, h⟩ := h
    refine tr_al (v := mem 201 (Int32.toNatClampNeg ((((41 * v3) + v1) * 41) + v5))) hC dX11_withNext_43 sh_201 g2 rfl ?_
    refine tr_aload_n hC dX11_withNext_44 rfl rfl ?_
    refine tr_iload hC dX11_withNext_45 rfl ?_
    refine tr_iload_n hC dX11_withNext_47 rfl rfl ?_
    obtain ⟨g3, h⟩ := h
    refine tr_xVi (As := [.inl v5, .inl v3]) (fr2 := 0) (lo2 := 0) hC dX11_withNext_48 mc_X11_134 mv_X11_restAt sh_187 rfl ⟨Nat.le_of_ble_eq_true rfl, Nat.le_of_ble_eq_true rfl, Nat.le_of_ble_eq_true rfl⟩ rfl (C_X11_restAt _ mem v5 v3 g3) ?_
    refine tr_iadd hC dX11_withNext_51 ?_
    refine tr_xSi (As := [.inl v4, .inl ((mem 201 (Int32.toNatClampNeg ((((41 * v3) + v1) * 41) + v5))) + (F_X11_restAt mem v5 v3))]) (fr2 := 0) (lo2 := 0) hC dX11_withNext_52 mc_X11_120 mst_X11_lesser ⟨Nat.le_of_ble_eq_true rfl, Nat.le_of_ble_eq_true rfl, Nat.le_of_ble_eq_true rfl⟩ rfl (C_X11_lesser _ mem v4 ((mem 201 (Int32.toNatClampNeg ((((41 * v3) + v1) * 41) + v5))) + (F_X11_restAt mem v5 v3))) ?_
    refine tr_istore (loc2 := [some (.inr 187), some (.inl v1), some (.inl v2), some (.inl v3), some (.inl (F_X11_lesser v4 ((mem 201 (Int32.toNatClampNeg ((((41 * v3) + v1) * 41) + v5))) + (F_X11_restAt mem v5 v3)))), some (.inl v5)]) hC dX11_withNext_55 (by decide) rfl ?_
    refine tr_iinc (v := v5 + 1) (loc2 := [some (.inr 187), some (.inl v1), some (.inl v2), some (.inl v3), some (.inl (F_X11_lesser v4 ((mem 201 (Int32.toNatClampNeg ((((41 * v3) + v1) * 41) + v5))) + (F_X11_restAt mem v5 v3)))), some (.inl (v5 + 1))]) hC dX11_withNext_57 rfl rfl (by decide) rfl ?_
    refine tr_goto hC dX11_withNext_60 (tgt := 21) rfl ?_
    exact h
set_option maxRecDepth 100000 in
theorem K_X11_layRest_0 {κ : TCx} {post0 : Option TV → TMem → Prop} (hC : TC κ RX11 cX11_layRest 5 3 72) (hT : TR κ none post0) (mem : TMem) (h : ∃ post : TMem → Prop, TMv κ.1.2.1 i_X11_layAll 2 49 [.inr 187] mem post ∧ ∀ (m1 : TMem), post m1 → (WT κ 9 [some (.inr 187), some (.inl (m1 187 0)), none, none, none] [] m1)) : WT κ 0 [some (.inr 187), none, none, none, none] [] mem := by
  refine tr_aload_n hC dX11_layRest_0 rfl rfl ?_
  obtain ⟨post1, hM1, h⟩ := h
  refine tr_cVv (As := []) (fr2 := 2) (lo2 := 49) hC dX11_layRest_1 mc_X11_137 mv_X11_layAll sh_187 rfl ⟨Nat.le_of_ble_eq_true rfl, Nat.le_of_ble_eq_true rfl, Nat.le_of_ble_eq_true rfl⟩ rfl hM1 (fun m1 hp1 => ?_)
  replace h := h m1 hp1
  refine tr_aload_n hC dX11_layRest_4 rfl rfl ?_
  refine tr_gi (v := m1 187 0) hC dX11_layRest_5 gf_X11_93 sh_187 rfl rfl ?_
  refine tr_istore_n (loc2 := [some (.inr 187), some (.inl (m1 187 0)), none, none, none]) hC dX11_layRest_8 rfl (by decide) rfl ?_
  exact h
set_option maxRecDepth 100000 in
theorem K_X11_layRest_9 {κ : TCx} {post0 : Option TV → TMem → Prop} (hC : TC κ RX11 cX11_layRest 5 3 72) (hT : TR κ none post0) (mem : TMem) (v1 : Int32) (h : (v1 < 0 → post0 none mem) ∧ (¬ (v1 < 0) → (WT κ 15 [some (.inr 187), some (.inl v1), some (.inl (-1)), none, none] [] mem))) : WT κ 9 [some (.inr 187), some (.inl v1), none, none, none] [] mem := by
  refine tr_iload_n hC dX11_layRest_9 rfl rfl ?_
  refine tr_if_lt hC dX11_layRest_10 (tgt := 122) rfl (fun c10 => ?_) (fun c10 => ?_)
  · replace h := h.1 c10
    exact tr_vret hC hT dX11_layRest_122 h
  · replace h := h.2 c10
    refine tr_iconst (v := (-1)) hC dX11_layRest_13 (by decide) ?_
    refine tr_istore_n (loc2 := [some (.inr 187), some (.inl v1), some (.inl (-1)), none, none]) hC dX11_layRest_14 rfl (by decide) rfl ?_
    exact h
set_option maxRecDepth 100000 in
theorem K_X11_layRest_15 {κ : TCx} {post0 : Option TV → TMem → Prop} (hC : TC κ RX11 cX11_layRest 5 3 72) (hT : TR κ none post0) (mem : TMem) (v1 : Int32) (v2 : Int32) (h : ((mem 187 4) ≤ v2 → (WT κ 9 [some (.inr 187), some (.inl (v1 + (-1))), none, none, none] [] mem)) ∧ (¬ ((mem 187 4) ≤ v2) → ((v1 = (mem 187 0) → ((v2 = (-1) → (WT κ 60 [some (.inr 187), some (.inl v1), some (.inl v2), some (.inl 1000000), some (.inl 0)] [] mem)) ∧ (¬ (v2 = (-1)) → ((G_X11_behind v2 (-1)) ∧ (((F_X11_behind mem v2 (-1)) < 0 → (WT κ 60 [some (.inr 187), some (.inl v1), some (.inl v2), some (.inl 1000000), some (.inl 0)] [] mem)) ∧ (¬ ((F_X11_behind mem v2 (-1)) < 0) → (WT κ 60 [some (.inr 187), some (.inl v1), some (.inl v2), some (.inl (F_X11_behind mem v2 (-1))), some (.inl 0)] [] mem))))))) ∧ (¬ (v1 = (mem 187 0)) → (WT κ 60 [some (.inr 187), some (.inl v1), some (.inl v2), some (.inl 1000000), some (.inl 0)] [] mem))))) : WT κ 15 [some (.inr 187), some (.inl v1), some (.inl v2), none, none] [] mem := by
  refine tr_iload_n hC dX11_layRest_15 rfl rfl ?_
  refine tr_aload_n hC dX11_layRest_16 rfl rfl ?_
  refine tr_gi (v := mem 187 4) hC dX11_layRest_17 gf_X11_104 sh_187 rfl rfl ?_
  refine tr_icmp_ge hC dX11_layRest_20 (tgt := 116) rfl (fun c20 => ?_) (fun c20 => ?_)
  · replace h := h.1 c20
    refine tr_iinc (v := v1 + (-1)) (loc2 := [some (.inr 187), some (.inl (v1 + (-1))), some (.inl v2), none, none]) hC dX11_layRest_116 rfl rfl (by decide) rfl ?_
    refine tr_goto hC dX11_layRest_119 (tgt := 9) rfl ?_
    exact tr_weak (tl_s (tl_s (tl_n (tl_n (tl_n (tl_nil _)))))) h
  · replace h := h.2 c20
    refine tr_iload_n hC dX11_layRest_23 rfl rfl ?_
    refine tr_aload_n hC dX11_layRest_24 rfl rfl ?_
    refine tr_gi (v := mem 187 0) hC dX11_layRest_25 gf_X11_93 sh_187 rfl rfl ?_
    refine tr_icmp_ne hC dX11_layRest_28 (tgt := 54) rfl (fun c28 => ?_) (fun c28 => ?_)
    · replace h := h.2 c28
      refine tr_ldc hC dX11_layRest_54 lc_X11_119 ?_
      refine tr_istore_n (loc2 := [some (.inr 187), some (.inl v1), some (.inl v2), some (.inl 1000000), none]) hC dX11_layRest_56 rfl (by decide) rfl ?_
      refine tr_iconst (v := 0) hC dX11_layRest_57 (by decide) ?_
      refine tr_istore (loc2 := [some (.inr 187), some (.inl v1), some (.inl v2), some (.inl 1000000), some (.inl 0)]) hC dX11_layRest_58 (by decide) rfl ?_
      exact h
    · replace h := h.1 c28
      refine tr_iload_n hC dX11_layRest_31 rfl rfl ?_
      refine tr_iconst (v := (-1)) hC dX11_layRest_32 (by decide) ?_
      refine tr_icmp_eq hC dX11_layRest_33 (tgt := 54) rfl (fun c33 => ?_) (fun c33 => ?_)
      · replace h := h.1 c33
        refine tr_ldc hC dX11_layRest_54 lc_X11_119 ?_
        refine tr_istore_n (loc2 := [some (.inr 187), some (.inl v1), some (.inl v2), some (.inl 1000000), none]) hC dX11_layRest_56 rfl (by decide) rfl ?_
        refine tr_iconst (v := 0) hC dX11_layRest_57 (by decide) ?_
        refine tr_istore (loc2 := [some (.inr 187), some (.inl v1), some (.inl v2), some (.inl 1000000), some (.inl 0)]) hC dX11_layRest_58 (by decide) rfl ?_
        exact h
      · replace h := h.2 c33
        refine tr_aload_n hC dX11_layRest_36 rfl rfl ?_
        refine tr_iload_n hC dX11_layRest_37 rfl rfl ?_
        refine tr_iconst (v := (-1)) hC dX11_layRest_38 (by decide) ?_
        obtain ⟨g1, h⟩ := h
        refine tr_xVi (As := [.inl v2, .inl (-1)]) (fr2 := 0) (lo2 := 0) hC dX11_layRest_39 mc_X11_115 mv_X11_behind sh_187 rfl ⟨Nat.le_of_ble_eq_true rfl, Nat.le_of_ble_eq_true rfl, Nat.le_of_ble_eq_true rfl⟩ rfl (C_X11_behind _ mem v2 (-1) g1) ?_
        refine tr_if_lt hC dX11_layRest_42 (tgt := 54) rfl (fun c42 => ?_) (fun c42 => ?_)
        · replace h := h.1 c42
          refine tr_ldc hC dX11_layRest_54 lc_X11_119 ?_
          refine tr_istore_n (loc2 := [some (.inr 187), some (.inl v1), some (.inl v2), some (.inl 1000000), none]) hC dX11_layRest_56 rfl (by decide) rfl ?_
          refine tr_iconst (v := 0) hC dX11_layRest_57 (by decide) ?_
          refine tr_istore (loc2 := [some (.inr 187), some (.inl v1), some (.inl v2), some (.inl 1000000), some (.inl 0)]) hC dX11_layRest_58 (by decide) rfl ?_
          exact h
        · replace h := h.2 c42
          refine tr_aload_n hC dX11_layRest_45 rfl rfl ?_
          refine tr_iload_n hC dX11_layRest_46 rfl rfl ?_
          refine tr_iconst (v := (-1)) hC dX11_layRest_47 (by decide) ?_
          refine tr_xVi (As := [.inl v2, .inl (-1)]) (fr2 := 0) (lo2 := 0) hC dX11_layRest_48 mc_X11_115 mv_X11_behind sh_187 rfl ⟨Nat.le_of_ble_eq_true rfl, Nat.le_of_ble_eq_true rfl, Nat.le_of_ble_eq_true rfl⟩ rfl (C_X11_behind _ mem v2 (-1) g1) ?_
          refine tr_goto hC dX11_layRest_51 (tgt := 56) rfl ?_
          refine tr_istore_n (loc2 := [some (.inr 187), some (.inl v1), some (.inl v2), some (.inl (F_X11_behind mem v2 (-1))), none]) hC dX11_layRest_56 rfl (by decide) rfl ?_
          refine tr_iconst (v := 0) hC dX11_layRest_57 (by decide) ?_
          refine tr_istore (loc2 := [some (.inr 187), some (.inl v1), some (.inl v2), some (.inl (F_X11_behind mem v2 (-1))), some (.inl 0)]) hC dX11_layRest_58 (by decide) rfl ?_
          exact h
set_option maxRecDepth 100000 in
theorem K_X11_layRest_60 {κ : TCx} {post0 : Option TV → TMem → Prop} (hC : TC κ RX11 cX11_layRest 5 3 72) (hT : TR κ none post0) (mem : TMem) (v1 : Int32) (v2 : Int32) (v3 : Int32) (v4 : Int32) (h : ((mem 187 4) ≤ v4 → ((v2 = (-1) → ((vp_in ((9 * v1) + 8) 369) ∧ (WT κ 15 [some (.inr 187), some (.inl v1), some (.inl (v2 + 1)), none, none] [] (mset mem 204 (Int32.toNatClampNeg ((9 * v1) + 8)) v3)))) ∧ (¬ (v2 = (-1)) → ((vp_in ((9 * v1) + v2) 369) ∧ (WT κ 15 [some (.inr 187), some (.inl v1), some (.inl (v2 + 1)), none, none] [] (mset mem 204 (Int32.toNatClampNeg ((9 * v1) + v2)) v3)))))) ∧ (¬ ((mem 187 4) ≤ v4) → (∃ post : Int32 → TMem → Prop, TMi κ.1.2.1 i_X11_withNext 1 22 [.inr 187, .inl v1, .inl v2, .inl v4] mem post ∧ ∀ (x75 : Int32) (m75 : TMem), post x75 m75 → (WT κ 60 [some (.inr 187), some (.inl v1), some (.inl v2), some (.inl (F_X11_lesser v3 x75)), some (.inl (v4 + 1))] [] m75)))) : WT κ 60 [some (.inr 187), some (.inl v1), some (.inl v2), some (.inl v3), some (.inl v4)] [] mem := by
  refine tr_iload hC dX11_layRest_60 rfl ?_
  refine tr_aload_n hC dX11_layRest_62 rfl rfl ?_
  refine tr_gi (v := mem 187 4) hC dX11_layRest_63 gf_X11_104 sh_187 rfl rfl ?_
  refine tr_icmp_ge hC dX11_layRest_66 (tgt := 88) rfl (fun c66 => ?_) (fun c66 => ?_)
  · replace h := h.1 c66
    refine tr_aload_n hC dX11_layRest_88 rfl rfl ?_
    refine tr_getr hC dX11_layRest_89 gf_X11_71 sh_187 rfl ?_
    refine tr_bipush (v := 9) hC dX11_layRest_92 (by decide) ?_
    refine tr_iload_n hC dX11_layRest_94 rfl rfl ?_
    refine tr_imul hC dX11_layRest_95 ?_
    refine tr_iload_n hC dX11_layRest_96 rfl rfl ?_
    refine tr_iconst (v := (-1)) hC dX11_layRest_97 (by decide) ?_
    refine tr_icmp_ne hC dX11_layRest_98 (tgt := 106) rfl (fun c98 => ?_) (fun c98 => ?_)
    · replace h := h.2 c98
      refine tr_iload_n hC dX11_layRest_106 rfl rfl ?_
      refine tr_iadd hC dX11_layRest_107 ?_
      refine tr_iload_n hC dX11_layRest_108 rfl rfl ?_
      obtain ⟨g1, h⟩ := h
      refine tr_iast hC dX11_layRest_109 sh_204 g1 ?_
      refine tr_iinc (v := v2 + 1) (loc2 := [some (.inr 187), some (.inl v1), some (.inl (v2 + 1)), some (.inl v3), some (.inl v4)]) hC dX11_layRest_110 rfl rfl (by decide) rfl ?_
      refine tr_goto hC dX11_layRest_113 (tgt := 15) rfl ?_
      exact tr_weak (tl_s (tl_s (tl_s (tl_n (tl_n (tl_nil _)))))) h
    · replace h := h.1 c98
      refine tr_bipush (v := 8) hC dX11_layRest_101 (by decide) ?_
      refine tr_goto hC dX11_layRest_103 (tgt := 107) rfl ?_
      refine tr_iadd hC dX11_layRest_107 ?_
      refine tr_iload_n hC dX11_layRest_108 rfl rfl ?_
      obtain ⟨g2, h⟩ := h
      refine tr_iast hC dX11_layRest_109 sh_204 g2 ?_
      refine tr_iinc (v := v2 + 1) (loc2 := [some (.inr 187), some (.inl v1), some (.inl (v2 + 1)), some (.inl v3), some (.inl v4)]) hC dX11_layRest_110 rfl rfl (by decide) rfl ?_
      refine tr_goto hC dX11_layRest_113 (tgt := 15) rfl ?_
      exact tr_weak (tl_s (tl_s (tl_s (tl_n (tl_n (tl_nil _)))))) h
  · replace h := h.2 c66
    refine tr_iload_n hC dX11_layRest_69 rfl rfl ?_
    refine tr_aload_n hC dX11_layRest_70 rfl rfl ?_
    refine tr_iload_n hC dX11_layRest_71 rfl rfl ?_
    refine tr_iload_n hC dX11_layRest_72 rfl rfl ?_
    refine tr_iload hC dX11_layRest_73 rfl ?_
    obtain ⟨post75, hM75, h⟩ := h
    refine tr_cVi (As := [.inl v1, .inl v2, .inl v4]) (fr2 := 1) (lo2 := 22) hC dX11_layRest_75 mc_X11_140 mv_X11_withNext sh_187 rfl ⟨Nat.le_of_ble_eq_true rfl, Nat.le_of_ble_eq_true rfl, Nat.le_of_ble_eq_true rfl⟩ rfl hM75 (fun x75 m75 hp75 => ?_)
    replace h := h x75 m75 hp75
    refine tr_xSi (As := [.inl v3, .inl x75]) (fr2 := 0) (lo2 := 0) hC dX11_layRest_78 mc_X11_120 mst_X11_lesser ⟨Nat.le_of_ble_eq_true rfl, Nat.le_of_ble_eq_true rfl, Nat.le_of_ble_eq_true rfl⟩ rfl (C_X11_lesser _ m75 v3 x75) ?_
    refine tr_istore_n (loc2 := [some (.inr 187), some (.inl v1), some (.inl v2), some (.inl (F_X11_lesser v3 x75)), some (.inl v4)]) hC dX11_layRest_81 rfl (by decide) rfl ?_
    refine tr_iinc (v := v4 + 1) (loc2 := [some (.inr 187), some (.inl v1), some (.inl v2), some (.inl (F_X11_lesser v3 x75)), some (.inl (v4 + 1))]) hC dX11_layRest_82 rfl rfl (by decide) rfl ?_
    refine tr_goto hC dX11_layRest_85 (tgt := 60) rfl ?_
    exact h
set_option maxRecDepth 100000 in
theorem K_X11_leastNow_0 {κ : TCx} {post0 : Option TV → TMem → Prop} (hC : TC κ RX11 cX11_leastNow 1 4 96) (hT : TR κ (some .int) post0) (mem : TMem) (h : ∃ post : TMem → Prop, TMv κ.1.2.1 i_X11_layRest 3 72 [.inr 187] mem post ∧ ∀ (m1 : TMem), post m1 → ((G_X11_restAt 0 (-1)) ∧ (post0 (some (.inl (F_X11_restAt m1 0 (-1)))) m1))) : WT κ 0 [some (.inr 187)] [] mem := by
  refine tr_aload_n hC dX11_leastNow_0 rfl rfl ?_
  obtain ⟨post1, hM1, h⟩ := h
  refine tr_cVv (As := []) (fr2 := 3) (lo2 := 72) hC dX11_leastNow_1 mc_X11_143 mv_X11_layRest sh_187 rfl ⟨Nat.le_of_ble_eq_true rfl, Nat.le_of_ble_eq_true rfl, Nat.le_of_ble_eq_true rfl⟩ rfl hM1 (fun m1 hp1 => ?_)
  replace h := h m1 hp1
  refine tr_aload_n hC dX11_leastNow_4 rfl rfl ?_
  refine tr_iconst (v := 0) hC dX11_leastNow_5 (by decide) ?_
  refine tr_iconst (v := (-1)) hC dX11_leastNow_6 (by decide) ?_
  obtain ⟨g1, h⟩ := h
  refine tr_xVi (As := [.inl 0, .inl (-1)]) (fr2 := 0) (lo2 := 0) hC dX11_leastNow_7 mc_X11_134 mv_X11_restAt sh_187 rfl ⟨Nat.le_of_ble_eq_true rfl, Nat.le_of_ble_eq_true rfl, Nat.le_of_ble_eq_true rfl⟩ rfl (C_X11_restAt _ m1 0 (-1) g1) ?_
  exact tr_iret hC hT dX11_leastNow_10 h
set_option maxRecDepth 100000 in
theorem K_X11_least_0 {κ : TCx} {post0 : Option TV → TMem → Prop} (hC : TC κ RX11 cX11_least 2 5 116) (hT : TR κ (some .int) post0) (mem : TMem) (h : ∃ post : Int32 → TMem → Prop, TMi κ.1.2.1 i_X11_leastNow 4 96 [.inr 187] mem post ∧ ∀ (x1 : Int32) (m1 : TMem), post x1 m1 → ((x1 = 1000000 → (post0 (some (.inl (-3))) m1)) ∧ (¬ (x1 = 1000000) → post0 (some (.inl x1)) m1))) : WT κ 0 [some (.inr 187), none] [] mem := by
  refine tr_aload_n hC dX11_least_0 rfl rfl ?_
  obtain ⟨post1, hM1, h⟩ := h
  refine tr_cVi (As := []) (fr2 := 4) (lo2 := 96) hC dX11_least_1 mc_X11_146 mv_X11_leastNow sh_187 rfl ⟨Nat.le_of_ble_eq_true rfl, Nat.le_of_ble_eq_true rfl, Nat.le_of_ble_eq_true rfl⟩ rfl hM1 (fun x1 m1 hp1 => ?_)
  replace h := h x1 m1 hp1
  refine tr_istore_n (loc2 := [some (.inr 187), some (.inl x1)]) hC dX11_least_4 rfl (by decide) rfl ?_
  refine tr_iload_n hC dX11_least_5 rfl rfl ?_
  refine tr_ldc hC dX11_least_6 lc_X11_119 ?_
  refine tr_icmp_ne hC dX11_least_8 (tgt := 16) rfl (fun c8 => ?_) (fun c8 => ?_)
  · replace h := h.2 c8
    refine tr_iload_n hC dX11_least_16 rfl rfl ?_
    exact tr_iret hC hT dX11_least_17 h
  · replace h := h.1 c8
    refine tr_bipush (v := (-3)) hC dX11_least_11 (by decide) ?_
    refine tr_goto hC dX11_least_13 (tgt := 17) rfl ?_
    exact tr_iret hC hT dX11_least_17 h
set_option maxRecDepth 100000 in
theorem K_X11_goesOn_0 {κ : TCx} {post0 : Option TV → TMem → Prop} (hC : TC κ RX11 cX11_goesOn 8 1 22) (hT : TR κ (some .boolean) post0) (mem : TMem) (p1 : Int32) (p2 : Int32) (p3 : Int32) (h : WT κ 6 [some (.inr 187), some (.inl p1), some (.inl p2), some (.inl p3), some (.inl 0), some (.inl 0), none, none] [] mem) : WT κ 0 [some (.inr 187), some (.inl p1), some (.inl p2), some (.inl p3), none, none, none, none] [] mem := by
  refine tr_iconst (v := 0) hC dX11_goesOn_0 (by decide) ?_
  refine tr_istore (loc2 := [some (.inr 187), some (.inl p1), some (.inl p2), some (.inl p3), some (.inl 0), none, none, none]) hC dX11_goesOn_1 (by decide) rfl ?_
  refine tr_iconst (v := 0) hC dX11_goesOn_3 (by decide) ?_
  refine tr_istore (loc2 := [some (.inr 187), some (.inl p1), some (.inl p2), some (.inl p3), some (.inl 0), some (.inl 0), none, none]) hC dX11_goesOn_4 (by decide) rfl ?_
  exact h
set_option maxRecDepth 100000 in
theorem K_X11_goesOn_6 {κ : TCx} {post0 : Option TV → TMem → Prop} (hC : TC κ RX11 cX11_goesOn 8 1 22) (hT : TR κ (some .boolean) post0) (mem : TMem) (v1 : Int32) (v2 : Int32) (v3 : Int32) (v4 : Int32) (v5 : Int32) (h : ((mem 187 0) < v5 → (((v4 = 0 ∨ v4 = 1)) ∧ (post0 (some (.inl v4)) mem))) ∧ (¬ ((mem 187 0) < v5) → (WT κ 22 [some (.inr 187), some (.inl v1), some (.inl v2), some (.inl v3), some (.inl v4), some (.inl v5), some (.inl 1000000), some (.inl 0)] [] mem))) : WT κ 6 [some (.inr 187), some (.inl v1), some (.inl v2), some (.inl v3), some (.inl v4), some (.inl v5), none, none] [] mem := by
  refine tr_iload hC dX11_goesOn_6 rfl ?_
  refine tr_aload_n hC dX11_goesOn_8 rfl rfl ?_
  refine tr_gi (v := mem 187 0) hC dX11_goesOn_9 gf_X11_93 sh_187 rfl rfl ?_
  refine tr_icmp_gt hC dX11_goesOn_12 (tgt := 120) rfl (fun c12 => ?_) (fun c12 => ?_)
  · replace h := h.1 c12
    refine tr_iload hC dX11_goesOn_120 rfl ?_
    obtain ⟨g1, h⟩ := h
    exact tr_zret hC hT dX11_goesOn_122 (nar_b g1) h
  · replace h := h.2 c12
    refine tr_ldc hC dX11_goesOn_15 lc_X11_119 ?_
    refine tr_istore (loc2 := [some (.inr 187), some (.inl v1), some (.inl v2), some (.inl v3), some (.inl v4), some (.inl v5), some (.inl 1000000), none]) hC dX11_goesOn_17 (by decide) rfl ?_
    refine tr_iconst (v := 0) hC dX11_goesOn_19 (by decide) ?_
    refine tr_istore (loc2 := [some (.inr 187), some (.inl v1), some (.inl v2), some (.inl v3), some (.inl v4), some (.inl v5), some (.inl 1000000), some (.inl 0)]) hC dX11_goesOn_20 (by decide) rfl ?_
    exact h
set_option maxRecDepth 100000 in
theorem K_X11_goesOn_22 {κ : TCx} {post0 : Option TV → TMem → Prop} (hC : TC κ RX11 cX11_goesOn 8 1 22) (hT : TR κ (some .boolean) post0) (mem : TMem) (v1 : Int32) (v2 : Int32) (v3 : Int32) (v4 : Int32) (v5 : Int32) (v6 : Int32) (v7 : Int32) (h : (v5 ≤ v7 → (vp_in v5 41 ∧ ((v4 = 0 → (G_X11_restAt v5 v2 ∧ (((v6 + (F_X11_restAt (mset mem 207 v5.toNatClampNeg v6) v5 v2)) = v3 → (WT κ 6 [some (.inr 187), some (.inl v1), some (.inl v2), some (.inl v3), some (.inl 1), some (.inl (v5 + 1)), none, none] [] (mset mem 207 v5.toNatClampNeg v6))) ∧ (¬ ((v6 + (F_X11_restAt (mset mem 207 v5.toNatClampNeg v6) v5 v2)) = v3) → (WT κ 6 [some (.inr 187), some (.inl v1), some (.inl v2), some (.inl v3), some (.inl 0), some (.inl (v5 + 1)), none, none] [] (mset mem 207 v5.toNatClampNeg v6)))))) ∧ (¬ (v4 = 0) → (WT κ 6 [some (.inr 187), some (.inl v1), some (.inl v2), some (.inl v3), some (.inl 1), some (.inl (v5 + 1)), none, none] [] (mset mem 207 v5.toNatClampNeg v6)))))) ∧ (¬ (v5 ≤ v7) → (G_X11_behind v1 v2 ∧ (((F_X11_behind mem v1 v2) < 0 → (vp_in v5 41 ∧ ((v4 = 0 → (G_X11_restAt v5 v2 ∧ (((v6 + (F_X11_restAt (mset mem 207 v5.toNatClampNeg v6) v5 v2)) = v3 → (WT κ 6 [some (.inr 187), some (.inl v1), some (.inl v2), some (.inl v3), some (.inl 1), some (.inl (v5 + 1)), none, none] [] (mset mem 207 v5.toNatClampNeg v6))) ∧ (¬ ((v6 + (F_X11_restAt (mset mem 207 v5.toNatClampNeg v6) v5 v2)) = v3) → (WT κ 6 [some (.inr 187), some (.inl v1), some (.inl v2), some (.inl v3), some (.inl 0), some (.inl (v5 + 1)), none, none] [] (mset mem 207 v5.toNatClampNeg v6)))))) ∧ (¬ (v4 = 0) → (WT κ 6 [some (.inr 187), some (.inl v1), some (.inl v2), some (.inl v3), some (.inl 1), some (.inl (v5 + 1)), none, none] [] (mset mem 207 v5.toNatClampNeg v6)))))) ∧ (¬ ((F_X11_behind mem v1 v2) < 0) → (vp_in v7 41 ∧ ((vp_in ((((41 * v2) + v7) * 41) + v5) 13448) ∧ (WT κ 22 [some (.inr 187), some (.inl v1), some (.inl v2), some (.inl v3), some (.inl v4), some (.inl v5), some (.inl (F_X11_lesser v6 (((mem 206 v7.toNatClampNeg) + (mem 201 (Int32.toNatClampNeg ((((41 * v2) + v7) * 41) + v5)))) + (F_X11_behind mem v1 v2)))), some (.inl (v7 + 1))] [] mem)))))))) : WT κ 22 [some (.inr 187), some (.inl v1), some (.inl v2), some (.inl v3), some (.inl v4), some (.inl v5), some (.inl v6), some (.inl v7)] [] mem := by
  refine tr_iload hC dX11_goesOn_22 rfl ?_
  refine tr_iload hC dX11_goesOn_24 rfl ?_
  refine tr_icmp_ge hC dX11_goesOn_26 (tgt := 79) rfl (fun c26 => ?_) (fun c26 => ?_)
  · replace h := h.1 c26
    refine tr_aload_n hC dX11_goesOn_79 rfl rfl ?_
    refine tr_getr hC dX11_goesOn_80 gf_X11_80 sh_187 rfl ?_
    refine tr_iload hC dX11_goesOn_83 rfl ?_
    refine tr_iload hC dX11_goesOn_85 rfl ?_
    obtain ⟨g1, h⟩ := h
    refine tr_iast hC dX11_goesOn_87 sh_207 g1 ?_
    refine tr_iload hC dX11_goesOn_88 rfl ?_
    refine tr_if_ne hC dX11_goesOn_90 (tgt := 107) rfl (fun c90 => ?_) (fun c90 => ?_)
    · replace h := h.2 c90
      refine tr_iconst (v := 1) hC dX11_goesOn_107 (by decide) ?_
      refine tr_goto hC dX11_goesOn_108 (tgt := 112) rfl ?_
      refine tr_istore (loc2 := [some (.inr 187), some (.inl v1), some (.inl v2), some (.inl v3), some (.inl 1), some (.inl v5), some (.inl v6), some (.inl v7)]) hC dX11_goesOn_112 (by decide) rfl ?_
      refine tr_iinc (v := v5 + 1) (loc2 := [some (.inr 187), some (.inl v1), some (.inl v2), some (.inl v3), some (.inl 1), some (.inl (v5 + 1)), some (.inl v6), some (.inl v7)]) hC dX11_goesOn_114 rfl rfl (by decide) rfl ?_
      refine tr_goto hC dX11_goesOn_117 (tgt := 6) rfl ?_
      exact tr_weak (tl_s (tl_s (tl_s (tl_s (tl_s (tl_s (tl_n (tl_n (tl_nil _))))))))) h
    · replace h := h.1 c90
      refine tr_iload hC dX11_goesOn_93 rfl ?_
      refine tr_aload_n hC dX11_goesOn_95 rfl rfl ?_
      refine tr_iload hC dX11_goesOn_96 rfl ?_
      refine tr_iload_n hC dX11_goesOn_98 rfl rfl ?_
      obtain ⟨g2, h⟩ := h
      refine tr_xVi (As := [.inl v5, .inl v2]) (fr2 := 0) (lo2 := 0) hC dX11_goesOn_99 mc_X11_134 mv_X11_restAt sh_187 rfl ⟨Nat.le_of_ble_eq_true rfl, Nat.le_of_ble_eq_true rfl, Nat.le_of_ble_eq_true rfl⟩ rfl (C_X11_restAt _ (mset mem 207 v5.toNatClampNeg v6) v5 v2 g2) ?_
      refine tr_iadd hC dX11_goesOn_102 ?_
      refine tr_iload_n hC dX11_goesOn_103 rfl rfl ?_
      refine tr_icmp_ne hC dX11_goesOn_104 (tgt := 111) rfl (fun c104 => ?_) (fun c104 => ?_)
      · replace h := h.2 c104
        refine tr_iconst (v := 0) hC dX11_goesOn_111 (by decide) ?_
        refine tr_istore (loc2 := [some (.inr 187), some (.inl v1), some (.inl v2), some (.inl v3), some (.inl 0), some (.inl v5), some (.inl v6), some (.inl v7)]) hC dX11_goesOn_112 (by decide) rfl ?_
        refine tr_iinc (v := v5 + 1) (loc2 := [some (.inr 187), some (.inl v1), some (.inl v2), some (.inl v3), some (.inl 0), some (.inl (v5 + 1)), some (.inl v6), some (.inl v7)]) hC dX11_goesOn_114 rfl rfl (by decide) rfl ?_
        refine tr_goto hC dX11_goesOn_117 (tgt := 6) rfl ?_
        exact tr_weak (tl_s (tl_s (tl_s (tl_s (tl_s (tl_s (tl_n (tl_n (tl_nil _))))))))) h
      · replace h := h.1 c104
        refine tr_iconst (v := 1) hC dX11_goesOn_107 (by decide) ?_
        refine tr_goto hC dX11_goesOn_108 (tgt := 112) rfl ?_
        refine tr_istore (loc2 := [some (.inr 187), some (.inl v1), some (.inl v2), some (.inl v3), some (.inl 1), some (.inl v5), some (.inl v6), some (.inl v7)]) hC dX11_goesOn_112 (by decide) rfl ?_
        refine tr_iinc (v := v5 + 1) (loc2 := [some (.inr 187), some (.inl v1), some (.inl v2), some (.inl v3), some (.inl 1), some (.inl (v5 + 1)), some (.inl v6), some (.inl v7)]) hC dX11_goesOn_114 rfl rfl (by decide) rfl ?_
        refine tr_goto hC dX11_goesOn_117 (tgt := 6) rfl ?_
        exact tr_weak (tl_s (tl_s (tl_s (tl_s (tl_s (tl_s (tl_n (tl_n (tl_nil _))))))))) h
  · replace h := h.2 c26
    refine tr_aload_n hC dX11_goesOn_29 rfl rfl ?_
    refine tr_iload_n hC dX11_goesOn_30 rfl rfl ?_
    refine tr_iload_n hC dX11_goesOn_31 rfl rfl ?_
    obtain ⟨g3, h⟩ := h
    refine tr_xVi (As := [.inl v1, .inl v2]) (fr2 := 0) (lo2 := 0) hC dX11_goesOn_32 mc_X11_115 mv_X11_behind sh_187 rfl ⟨Nat.le_of_ble_eq_true rfl, Nat.le_of_ble_eq_true rfl, Nat.le_of_ble_eq_true rfl⟩ rfl (C_X11_behind _ mem v1 v2 g3) ?_
    refine tr_if_lt hC dX11_goesOn_35 (tgt := 79) rfl (fun c35 => ?_) (fun c35 => ?_)
    · replace h := h.1 c35
      refine tr_aload_n hC dX11_goesOn_79 rfl rfl ?_
      refine tr_getr hC dX11_goesOn_80 gf_X11_80 sh_187 rfl ?_
      refine tr_iload hC dX11_goesOn_83 rfl ?_
      refine tr_iload hC dX11_goesOn_85 rfl ?_
      obtain ⟨g4, h⟩ := h
      refine tr_iast hC dX11_goesOn_87 sh_207 g4 ?_
      refine tr_iload hC dX11_goesOn_88 rfl ?_
      refine tr_if_ne hC dX11_goesOn_90 (tgt := 107) rfl (fun c90 => ?_) (fun c90 => ?_)
      · replace h := h.2 c90
        refine tr_iconst (v := 1) hC dX11_goesOn_107 (by decide) ?_
        refine tr_goto hC dX11_goesOn_108 (tgt := 112) rfl ?_
        refine tr_istore (loc2 := [some (.inr 187), some (.inl v1), some (.inl v2), some (.inl v3), some (.inl 1), some (.inl v5), some (.inl v6), some (.inl v7)]) hC dX11_goesOn_112 (by decide) rfl ?_
        refine tr_iinc (v := v5 + 1) (loc2 := [some (.inr 187), some (.inl v1), some (.inl v2), some (.inl v3), some (.inl 1), some (.inl (v5 + 1)), some (.inl v6), some (.inl v7)]) hC dX11_goesOn_114 rfl rfl (by decide) rfl ?_
        refine tr_goto hC dX11_goesOn_117 (tgt := 6) rfl ?_
        exact tr_weak (tl_s (tl_s (tl_s (tl_s (tl_s (tl_s (tl_n (tl_n (tl_nil _))))))))) h
      · replace h := h.1 c90
        refine tr_iload hC dX11_goesOn_93 rfl ?_
        refine tr_aload_n hC dX11_goesOn_95 rfl rfl ?_
        refine tr_iload hC dX11_goesOn_96 rfl ?_
        refine tr_iload_n hC dX11_goesOn_98 rfl rfl ?_
        obtain ⟨g5, h⟩ := h
        refine tr_xVi (As := [.inl v5, .inl v2]) (fr2 := 0) (lo2 := 0) hC dX11_goesOn_99 mc_X11_134 mv_X11_restAt sh_187 rfl ⟨Nat.le_of_ble_eq_true rfl, Nat.le_of_ble_eq_true rfl, Nat.le_of_ble_eq_true rfl⟩ rfl (C_X11_restAt _ (mset mem 207 v5.toNatClampNeg v6) v5 v2 g5) ?_
        refine tr_iadd hC dX11_goesOn_102 ?_
        refine tr_iload_n hC dX11_goesOn_103 rfl rfl ?_
        refine tr_icmp_ne hC dX11_goesOn_104 (tgt := 111) rfl (fun c104 => ?_) (fun c104 => ?_)
        · replace h := h.2 c104
          refine tr_iconst (v := 0) hC dX11_goesOn_111 (by decide) ?_
          refine tr_istore (loc2 := [some (.inr 187), some (.inl v1), some (.inl v2), some (.inl v3), some (.inl 0), some (.inl v5), some (.inl v6), some (.inl v7)]) hC dX11_goesOn_112 (by decide) rfl ?_
          refine tr_iinc (v := v5 + 1) (loc2 := [some (.inr 187), some (.inl v1), some (.inl v2), some (.inl v3), some (.inl 0), some (.inl (v5 + 1)), some (.inl v6), some (.inl v7)]) hC dX11_goesOn_114 rfl rfl (by decide) rfl ?_
          refine tr_goto hC dX11_goesOn_117 (tgt := 6) rfl ?_
          exact tr_weak (tl_s (tl_s (tl_s (tl_s (tl_s (tl_s (tl_n (tl_n (tl_nil _))))))))) h
        · replace h := h.1 c104
          refine tr_iconst (v := 1) hC dX11_goesOn_107 (by decide) ?_
          refine tr_goto hC dX11_goesOn_108 (tgt := 112) rfl ?_
          refine tr_istore (loc2 := [some (.inr 187), some (.inl v1), some (.inl v2), some (.inl v3), some (.inl 1), some (.inl v5), some (.inl v6), some (.inl v7)]) hC dX11_goesOn_112 (by decide) rfl ?_
          refine tr_iinc (v := v5 + 1) (loc2 := [some (.inr 187), some (.inl v1), some (.inl v2), some (.inl v3), some (.inl 1), some (.inl (v5 + 1)), some (.inl v6), some (.inl v7)]) hC dX11_goesOn_114 rfl rfl (by decide) rfl ?_
          refine tr_goto hC dX11_goesOn_117 (tgt := 6) rfl ?_
          exact tr_weak (tl_s (tl_s (tl_s (tl_s (tl_s (tl_s (tl_n (tl_n (tl_nil _))))))))) h
    · replace h := h.2 c35
      refine tr_iload hC dX11_goesOn_38 rfl ?_
      refine tr_aload_n hC dX11_goesOn_40 rfl rfl ?_
      refine tr_getr hC dX11_goesOn_41 gf_X11_77 sh_187 rfl ?_
      refine tr_iload hC dX11_goesOn_44 rfl ?_
      obtain ⟨g6, h⟩ := h
      refine tr_al (v := mem 206 v7.toNatClampNeg) hC dX11_goesOn_46 sh_206 g6 rfl ?_
      refine tr_aload_n hC dX11_goesOn_47 rfl rfl ?_
      refine tr_getr hC dX11_goesOn_48 gf_X11_62 sh_187 rfl ?_
      refine tr_iload_n hC dX11_goesOn_51 rfl rfl ?_
      refine tr_iload hC dX11_goesOn_52 rfl ?_
      refine tr_iload hC dX11_goesOn_54 rfl ?_
      refine tr_xSi (As := [.inl v2, .inl v7, .inl v5]) (fr2 := 0) (lo2 := 0) hC dX11_goesOn_56 mc_X11_126 mst_X11_onAt ⟨Nat.le_of_ble_eq_true rfl, Nat.le_of_ble_eq_true rfl, Nat.le_of_ble_eq_true rfl⟩ rfl (C_X11_onAt _ mem v2 v7 v5) ?_
      obtain ⟨g7, h⟩ := h
      refine tr_al (v := mem 201 (Int32.toNatClampNeg ((((41 * v2) + v7) * 41) + v5))) hC dX11_goesOn_59 sh_201 g7 rfl ?_
      refine tr_iadd hC dX11_goesOn_60 ?_
      refine tr_aload_n hC dX11_goesOn_61 rfl rfl ?_
      refine tr_iload_n hC dX11_goesOn_62 rfl rfl ?_
      refine tr_iload_n hC dX11_goesOn_63 rfl rfl ?_
      refine tr_xVi (As := [.inl v1, .inl v2]) (fr2 := 0) (lo2 := 0) hC dX11_goesOn_64 mc_X11_115 mv_X11_behind sh_187 rfl ⟨Nat.le_of_ble_eq_true rfl, Nat.le_of_ble_eq_true rfl, Nat.le_of_ble_eq_true rfl⟩ rfl (C_X11_behind _ mem v1 v2 g3) ?_
      refine tr_iadd hC dX11_goesOn_67 ?_
      refine tr_xSi (As := [.inl v6, .inl (((mem 206 v7.toNatClampNeg) + (mem 201 (Int32.toNatClampNeg ((((41 * v2) + v7) * 41) + v5)))) + (F_X11_behind mem v1 v2))]) (fr2 := 0) (lo2 := 0) hC dX11_goesOn_68 mc_X11_120 mst_X11_lesser ⟨Nat.le_of_ble_eq_true rfl, Nat.le_of_ble_eq_true rfl, Nat.le_of_ble_eq_true rfl⟩ rfl (C_X11_lesser _ mem v6 (((mem 206 v7.toNatClampNeg) + (mem 201 (Int32.toNatClampNeg ((((41 * v2) + v7) * 41) + v5)))) + (F_X11_behind mem v1 v2))) ?_
      refine tr_istore (loc2 := [some (.inr 187), some (.inl v1), some (.inl v2), some (.inl v3), some (.inl v4), some (.inl v5), some (.inl (F_X11_lesser v6 (((mem 206 v7.toNatClampNeg) + (mem 201 (Int32.toNatClampNeg ((((41 * v2) + v7) * 41) + v5)))) + (F_X11_behind mem v1 v2)))), some (.inl v7)]) hC dX11_goesOn_71 (by decide) rfl ?_
      refine tr_iinc (v := v7 + 1) (loc2 := [some (.inr 187), some (.inl v1), some (.inl v2), some (.inl v3), some (.inl v4), some (.inl v5), some (.inl (F_X11_lesser v6 (((mem 206 v7.toNatClampNeg) + (mem 201 (Int32.toNatClampNeg ((((41 * v2) + v7) * 41) + v5)))) + (F_X11_behind mem v1 v2)))), some (.inl (v7 + 1))]) hC dX11_goesOn_73 rfl rfl (by decide) rfl ?_
      refine tr_goto hC dX11_goesOn_76 (tgt := 22) rfl ?_
      exact h
set_option maxRecDepth 100000 in
theorem K_X11_findRow_0 {κ : TCx} {post0 : Option TV → TMem → Prop} (hC : TC κ RX11 cX11_findRow 5 5 116) (hT : TR κ (some .boolean) post0) (mem : TMem) (h : ∃ post : Int32 → TMem → Prop, TMi κ.1.2.1 i_X11_leastNow 4 96 [.inr 187] mem post ∧ ∀ (x1 : Int32) (m1 : TMem), post x1 m1 → ((x1 = 1000000 → post0 (some (.inl 0)) (mset m1 187 26 0)) ∧ (¬ (x1 = 1000000) → (WT κ 20 [some (.inr 187), some (.inl x1), some (.inl 0), none, none] [] (mset m1 187 26 0))))) : WT κ 0 [some (.inr 187), none, none, none, none] [] mem := by
  refine tr_aload_n hC dX11_findRow_0 rfl rfl ?_
  obtain ⟨post1, hM1, h⟩ := h
  refine tr_cVi (As := []) (fr2 := 4) (lo2 := 96) hC dX11_findRow_1 mc_X11_146 mv_X11_leastNow sh_187 rfl ⟨Nat.le_of_ble_eq_true rfl, Nat.le_of_ble_eq_true rfl, Nat.le_of_ble_eq_true rfl⟩ rfl hM1 (fun x1 m1 hp1 => ?_)
  replace h := h x1 m1 hp1
  refine tr_istore_n (loc2 := [some (.inr 187), some (.inl x1), none, none, none]) hC dX11_findRow_4 rfl (by decide) rfl ?_
  refine tr_aload_n hC dX11_findRow_5 rfl rfl ?_
  refine tr_iconst (v := 0) hC dX11_findRow_6 (by decide) ?_
  refine tr_puti hC dX11_findRow_7 gp_X11_150 sh_187 rfl rfl rfl ?_
  refine tr_iload_n hC dX11_findRow_10 rfl rfl ?_
  refine tr_ldc hC dX11_findRow_11 lc_X11_119 ?_
  refine tr_icmp_ne hC dX11_findRow_13 (tgt := 18) rfl (fun c13 => ?_) (fun c13 => ?_)
  · replace h := h.2 c13
    refine tr_iconst (v := 0) hC dX11_findRow_18 (by decide) ?_
    refine tr_istore_n (loc2 := [some (.inr 187), some (.inl x1), some (.inl 0), none, none]) hC dX11_findRow_19 rfl (by decide) rfl ?_
    exact h
  · replace h := h.1 c13
    refine tr_iconst (v := 0) hC dX11_findRow_16 (by decide) ?_
    exact tr_zret hC hT dX11_findRow_17 (nar_b (by decide)) h
set_option maxRecDepth 100000 in
theorem K_X11_findRow_20 {κ : TCx} {post0 : Option TV → TMem → Prop} (hC : TC κ RX11 cX11_findRow 5 5 116) (hT : TR κ (some .boolean) post0) (mem : TMem) (v1 : Int32) (v2 : Int32) (h : ((mem 187 0) < v2 → (WT κ 52 [some (.inr 187), some (.inl v1), some (.inl (-1)), none, none] [] mem)) ∧ (¬ ((mem 187 0) < v2) → ((v2 = 0 → (vp_in v2 41 ∧ (WT κ 20 [some (.inr 187), some (.inl v1), some (.inl (v2 + 1)), none, none] [] (mset mem 206 v2.toNatClampNeg 0)))) ∧ (¬ (v2 = 0) → (vp_in v2 41 ∧ (WT κ 20 [some (.inr 187), some (.inl v1), some (.inl (v2 + 1)), none, none] [] (mset mem 206 v2.toNatClampNeg 1000000))))))) : WT κ 20 [some (.inr 187), some (.inl v1), some (.inl v2), none, none] [] mem := by
  refine tr_iload_n hC dX11_findRow_20 rfl rfl ?_
  refine tr_aload_n hC dX11_findRow_21 rfl rfl ?_
  refine tr_gi (v := mem 187 0) hC dX11_findRow_22 gf_X11_93 sh_187 rfl rfl ?_
  refine tr_icmp_gt hC dX11_findRow_25 (tgt := 50) rfl (fun c25 => ?_) (fun c25 => ?_)
  · replace h := h.1 c25
    refine tr_iconst (v := (-1)) hC dX11_findRow_50 (by decide) ?_
    refine tr_istore_n (loc2 := [some (.inr 187), some (.inl v1), some (.inl (-1)), none, none]) hC dX11_findRow_51 rfl (by decide) rfl ?_
    exact h
  · replace h := h.2 c25
    refine tr_aload_n hC dX11_findRow_28 rfl rfl ?_
    refine tr_getr hC dX11_findRow_29 gf_X11_77 sh_187 rfl ?_
    refine tr_iload_n hC dX11_findRow_32 rfl rfl ?_
    refine tr_iload_n hC dX11_findRow_33 rfl rfl ?_
    refine tr_if_ne hC dX11_findRow_34 (tgt := 41) rfl (fun c34 => ?_) (fun c34 => ?_)
    · replace h := h.2 c34
      refine tr_ldc hC dX11_findRow_41 lc_X11_119 ?_
      obtain ⟨g1, h⟩ := h
      refine tr_iast hC dX11_findRow_43 sh_206 g1 ?_
      refine tr_iinc (v := v2 + 1) (loc2 := [some (.inr 187), some (.inl v1), some (.inl (v2 + 1)), none, none]) hC dX11_findRow_44 rfl rfl (by decide) rfl ?_
      refine tr_goto hC dX11_findRow_47 (tgt := 20) rfl ?_
      exact h
    · replace h := h.1 c34
      refine tr_iconst (v := 0) hC dX11_findRow_37 (by decide) ?_
      refine tr_goto hC dX11_findRow_38 (tgt := 43) rfl ?_
      obtain ⟨g2, h⟩ := h
      refine tr_iast hC dX11_findRow_43 sh_206 g2 ?_
      refine tr_iinc (v := v2 + 1) (loc2 := [some (.inr 187), some (.inl v1), some (.inl (v2 + 1)), none, none]) hC dX11_findRow_44 rfl rfl (by decide) rfl ?_
      refine tr_goto hC dX11_findRow_47 (tgt := 20) rfl ?_
      exact h
set_option maxRecDepth 100000 in
theorem K_X11_findRow_52 {κ : TCx} {post0 : Option TV → TMem → Prop} (hC : TC κ RX11 cX11_findRow 5 5 116) (hT : TR κ (some .boolean) post0) (mem : TMem) (v1 : Int32) (v2 : Int32) (h : (v2 = (-1) → (WT κ 88 [some (.inr 187), some (.inl v1), some (.inl v2), some (.inl 0), none] [] mem)) ∧ (¬ (v2 = (-1)) → ((G_X11_behind v2 (-1)) ∧ (((F_X11_behind mem v2 (-1)) < 0 → (WT κ 88 [some (.inr 187), some (.inl v1), some (.inl v2), some (.inl 0), none] [] mem)) ∧ (¬ ((F_X11_behind mem v2 (-1)) < 0) → (vp_in (mem 187 0) 41 ∧ ((((mem 206 (Int32.toNatClampNeg (mem 187 0))) + (F_X11_behind mem v2 (-1))) = v1 → post0 (some (.inl 1)) mem) ∧ (¬ (((mem 206 (Int32.toNatClampNeg (mem 187 0))) + (F_X11_behind mem v2 (-1))) = v1) → (WT κ 88 [some (.inr 187), some (.inl v1), some (.inl v2), some (.inl 0), none] [] mem))))))))) : WT κ 52 [some (.inr 187), some (.inl v1), some (.inl v2), none, none] [] mem := by
  refine tr_iload_n hC dX11_findRow_52 rfl rfl ?_
  refine tr_iconst (v := (-1)) hC dX11_findRow_53 (by decide) ?_
  refine tr_icmp_eq hC dX11_findRow_54 (tgt := 86) rfl (fun c54 => ?_) (fun c54 => ?_)
  · replace h := h.1 c54
    refine tr_iconst (v := 0) hC dX11_findRow_86 (by decide) ?_
    refine tr_istore_n (loc2 := [some (.inr 187), some (.inl v1), some (.inl v2), some (.inl 0), none]) hC dX11_findRow_87 rfl (by decide) rfl ?_
    exact h
  · replace h := h.2 c54
    refine tr_aload_n hC dX11_findRow_57 rfl rfl ?_
    refine tr_iload_n hC dX11_findRow_58 rfl rfl ?_
    refine tr_iconst (v := (-1)) hC dX11_findRow_59 (by decide) ?_
    obtain ⟨g1, h⟩ := h
    refine tr_xVi (As := [.inl v2, .inl (-1)]) (fr2 := 0) (lo2 := 0) hC dX11_findRow_60 mc_X11_115 mv_X11_behind sh_187 rfl ⟨Nat.le_of_ble_eq_true rfl, Nat.le_of_ble_eq_true rfl, Nat.le_of_ble_eq_true rfl⟩ rfl (C_X11_behind _ mem v2 (-1) g1) ?_
    refine tr_if_lt hC dX11_findRow_63 (tgt := 86) rfl (fun c63 => ?_) (fun c63 => ?_)
    · replace h := h.1 c63
      refine tr_iconst (v := 0) hC dX11_findRow_86 (by decide) ?_
      refine tr_istore_n (loc2 := [some (.inr 187), some (.inl v1), some (.inl v2), some (.inl 0), none]) hC dX11_findRow_87 rfl (by decide) rfl ?_
      exact h
    · replace h := h.2 c63
      refine tr_aload_n hC dX11_findRow_66 rfl rfl ?_
      refine tr_getr hC dX11_findRow_67 gf_X11_77 sh_187 rfl ?_
      refine tr_aload_n hC dX11_findRow_70 rfl rfl ?_
      refine tr_gi (v := mem 187 0) hC dX11_findRow_71 gf_X11_93 sh_187 rfl rfl ?_
      obtain ⟨g2, h⟩ := h
      refine tr_al (v := mem 206 (Int32.toNatClampNeg (mem 187 0))) hC dX11_findRow_74 sh_206 g2 rfl ?_
      refine tr_aload_n hC dX11_findRow_75 rfl rfl ?_
      refine tr_iload_n hC dX11_findRow_76 rfl rfl ?_
      refine tr_iconst (v := (-1)) hC dX11_findRow_77 (by decide) ?_
      refine tr_xVi (As := [.inl v2, .inl (-1)]) (fr2 := 0) (lo2 := 0) hC dX11_findRow_78 mc_X11_115 mv_X11_behind sh_187 rfl ⟨Nat.le_of_ble_eq_true rfl, Nat.le_of_ble_eq_true rfl, Nat.le_of_ble_eq_true rfl⟩ rfl (C_X11_behind _ mem v2 (-1) g1) ?_
      refine tr_iadd hC dX11_findRow_81 ?_
      refine tr_iload_n hC dX11_findRow_82 rfl rfl ?_
      refine tr_icmp_eq hC dX11_findRow_83 (tgt := 161) rfl (fun c83 => ?_) (fun c83 => ?_)
      · replace h := h.1 c83
        refine tr_iconst (v := 1) hC dX11_findRow_161 (by decide) ?_
        exact tr_zret hC hT dX11_findRow_162 (nar_b (by decide)) h
      · replace h := h.2 c83
        refine tr_iconst (v := 0) hC dX11_findRow_86 (by decide) ?_
        refine tr_istore_n (loc2 := [some (.inr 187), some (.inl v1), some (.inl v2), some (.inl 0), none]) hC dX11_findRow_87 rfl (by decide) rfl ?_
        exact h
set_option maxRecDepth 100000 in
theorem K_X11_findRow_88 {κ : TCx} {post0 : Option TV → TMem → Prop} (hC : TC κ RX11 cX11_findRow 5 5 116) (hT : TR κ (some .boolean) post0) (mem : TMem) (v1 : Int32) (v2 : Int32) (v3 : Int32) (h : ∃ post : Int32 → TMem → Prop, TMi κ.1.2.1 i_X11_goesOn 1 22 [.inr 187, .inl v2, .inl v3, .inl v1] mem post ∧ ∀ (x92 : Int32) (m92 : TMem), post x92 m92 → ((x92 = 0 → (WT κ 88 [some (.inr 187), some (.inl v1), some (.inl v2), some (.inl (v3 + 1)), none] [] m92)) ∧ (¬ (x92 = 0) → (vp_in (m92 187 26) 40 ∧ (WT κ 129 [some (.inr 187), some (.inl v1), some (.inl v3), none, some (.inl 0)] [] (mset (mset m92 205 (Int32.toNatClampNeg (m92 187 26)) v3) 187 26 ((m92 187 26) + 1))))))) : WT κ 88 [some (.inr 187), some (.inl v1), some (.inl v2), some (.inl v3), none] [] mem := by
  refine tr_aload_n hC dX11_findRow_88 rfl rfl ?_
  refine tr_iload_n hC dX11_findRow_89 rfl rfl ?_
  refine tr_iload_n hC dX11_findRow_90 rfl rfl ?_
  refine tr_iload_n hC dX11_findRow_91 rfl rfl ?_
  obtain ⟨post92, hM92, h⟩ := h
  refine tr_cVi (As := [.inl v2, .inl v3, .inl v1]) (fr2 := 1) (lo2 := 22) hC dX11_findRow_92 mc_X11_153 mv_X11_goesOn sh_187 rfl ⟨Nat.le_of_ble_eq_true rfl, Nat.le_of_ble_eq_true rfl, Nat.le_of_ble_eq_true rfl⟩ rfl hM92 (fun x92 m92 hp92 => ?_)
  replace h := h x92 m92 hp92
  refine tr_if_ne hC dX11_findRow_95 (tgt := 104) rfl (fun c95 => ?_) (fun c95 => ?_)
  · replace h := h.2 c95
    refine tr_aload_n hC dX11_findRow_104 rfl rfl ?_
    refine tr_getr hC dX11_findRow_105 gf_X11_74 sh_187 rfl ?_
    refine tr_aload_n hC dX11_findRow_108 rfl rfl ?_
    refine tr_gi (v := m92 187 26) hC dX11_findRow_109 gf_X11_150 sh_187 rfl rfl ?_
    refine tr_iload_n hC dX11_findRow_112 rfl rfl ?_
    obtain ⟨g1, h⟩ := h
    refine tr_iast hC dX11_findRow_113 sh_205 g1 ?_
    refine tr_aload_n hC dX11_findRow_114 rfl rfl ?_
    refine tr_dup hC dX11_findRow_115 ?_
    refine tr_gi (v := m92 187 26) hC dX11_findRow_116 gf_X11_150 sh_187 rfl (ms_ne (by decide)) ?_
    refine tr_iconst (v := 1) hC dX11_findRow_119 (by decide) ?_
    refine tr_iadd hC dX11_findRow_120 ?_
    refine tr_puti hC dX11_findRow_121 gp_X11_150 sh_187 rfl rfl rfl ?_
    refine tr_iload_n hC dX11_findRow_124 rfl rfl ?_
    refine tr_istore_n (loc2 := [some (.inr 187), some (.inl v1), some (.inl v3), some (.inl v3), none]) hC dX11_findRow_125 rfl (by decide) rfl ?_
    refine tr_iconst (v := 0) hC dX11_findRow_126 (by decide) ?_
    refine tr_istore (loc2 := [some (.inr 187), some (.inl v1), some (.inl v3), some (.inl v3), some (.inl 0)]) hC dX11_findRow_127 (by decide) rfl ?_
    exact tr_weak (tl_s (tl_s (tl_s (tl_n (tl_s (tl_nil _)))))) h
  · replace h := h.1 c95
    refine tr_iinc (v := v3 + 1) (loc2 := [some (.inr 187), some (.inl v1), some (.inl v2), some (.inl (v3 + 1)), none]) hC dX11_findRow_98 rfl rfl (by decide) rfl ?_
    refine tr_goto hC dX11_findRow_101 (tgt := 88) rfl ?_
    exact h
set_option maxRecDepth 100000 in
theorem K_X11_findRow_129 {κ : TCx} {post0 : Option TV → TMem → Prop} (hC : TC κ RX11 cX11_findRow 5 5 116) (hT : TR κ (some .boolean) post0) (mem : TMem) (v1 : Int32) (v2 : Int32) (v4 : Int32) (h : ((mem 187 0) < v4 → (WT κ 52 [some (.inr 187), some (.inl v1), some (.inl v2), none, none] [] mem)) ∧ (¬ ((mem 187 0) < v4) → (vp_in v4 41 ∧ (WT κ 129 [some (.inr 187), some (.inl v1), some (.inl v2), none, some (.inl (v4 + 1))] [] (mset mem 206 v4.toNatClampNeg (mem 207 v4.toNatClampNeg)))))) : WT κ 129 [some (.inr 187), some (.inl v1), some (.inl v2), none, some (.inl v4)] [] mem := by
  refine tr_iload hC dX11_findRow_129 rfl ?_
  refine tr_aload_n hC dX11_findRow_131 rfl rfl ?_
  refine tr_gi (v := mem 187 0) hC dX11_findRow_132 gf_X11_93 sh_187 rfl rfl ?_
  refine tr_icmp_gt hC dX11_findRow_135 (tgt := 158) rfl (fun c135 => ?_) (fun c135 => ?_)
  · replace h := h.1 c135
    refine tr_goto hC dX11_findRow_158 (tgt := 52) rfl ?_
    exact tr_weak (tl_s (tl_s (tl_s (tl_n (tl_n (tl_nil _)))))) h
  · replace h := h.2 c135
    refine tr_aload_n hC dX11_findRow_138 rfl rfl ?_
    refine tr_getr hC dX11_findRow_139 gf_X11_77 sh_187 rfl ?_
    refine tr_iload hC dX11_findRow_142 rfl ?_
    refine tr_aload_n hC dX11_findRow_144 rfl rfl ?_
    refine tr_getr hC dX11_findRow_145 gf_X11_80 sh_187 rfl ?_
    refine tr_iload hC dX11_findRow_148 rfl ?_
    obtain ⟨g1, h⟩ := h
    refine tr_al (v := mem 207 v4.toNatClampNeg) hC dX11_findRow_150 sh_207 g1 rfl ?_
    refine tr_iast hC dX11_findRow_151 sh_206 g1 ?_
    refine tr_iinc (v := v4 + 1) (loc2 := [some (.inr 187), some (.inl v1), some (.inl v2), none, some (.inl (v4 + 1))]) hC dX11_findRow_152 rfl rfl (by decide) rfl ?_
    refine tr_goto hC dX11_findRow_155 (tgt := 129) rfl ?_
    exact h
set_option maxRecDepth 100000 in
theorem K_X11_rowSize_0 {κ : TCx} {post0 : Option TV → TMem → Prop} (hC : TC κ RX11 cX11_rowSize 1 6 140) (hT : TR κ (some .int) post0) (mem : TMem) (h : ∃ post : Int32 → TMem → Prop, TMi κ.1.2.1 i_X11_findRow 5 116 [.inr 187] mem post ∧ ∀ (x1 : Int32) (m1 : TMem), post x1 m1 → ((x1 = 0 → (post0 (some (.inl (-3))) m1)) ∧ (¬ (x1 = 0) → post0 (some (.inl (m1 187 26))) m1))) : WT κ 0 [some (.inr 187)] [] mem := by
  refine tr_aload_n hC dX11_rowSize_0 rfl rfl ?_
  obtain ⟨post1, hM1, h⟩ := h
  refine tr_cVi (As := []) (fr2 := 5) (lo2 := 116) hC dX11_rowSize_1 mc_X11_156 mv_X11_findRow sh_187 rfl ⟨Nat.le_of_ble_eq_true rfl, Nat.le_of_ble_eq_true rfl, Nat.le_of_ble_eq_true rfl⟩ rfl hM1 (fun x1 m1 hp1 => ?_)
  replace h := h x1 m1 hp1
  refine tr_if_eq hC dX11_rowSize_4 (tgt := 14) rfl (fun c4 => ?_) (fun c4 => ?_)
  · replace h := h.1 c4
    refine tr_bipush (v := (-3)) hC dX11_rowSize_14 (by decide) ?_
    exact tr_iret hC hT dX11_rowSize_16 h
  · replace h := h.2 c4
    refine tr_aload_n hC dX11_rowSize_7 rfl rfl ?_
    refine tr_gi (v := m1 187 26) hC dX11_rowSize_8 gf_X11_150 sh_187 rfl rfl ?_
    refine tr_goto hC dX11_rowSize_11 (tgt := 16) rfl ?_
    exact tr_iret hC hT dX11_rowSize_16 h
set_option maxRecDepth 100000 in
theorem K_X11_rowAt_0 {κ : TCx} {post0 : Option TV → TMem → Prop} (hC : TC κ RX11 cX11_rowAt 2 6 140) (hT : TR κ (some .int) post0) (mem : TMem) (p1 : Int32) (h : ∃ post : Int32 → TMem → Prop, TMi κ.1.2.1 i_X11_findRow 5 116 [.inr 187] mem post ∧ ∀ (x1 : Int32) (m1 : TMem), post x1 m1 → ((x1 = 0 → (post0 (some (.inl (-3))) m1)) ∧ (¬ (x1 = 0) → (((F_X11_in p1 0 ((m1 187 26) - 1)) = 0 → (post0 (some (.inl (-2))) m1)) ∧ (¬ ((F_X11_in p1 0 ((m1 187 26) - 1)) = 0) → (vp_in p1 40 ∧ (post0 (some (.inl (m1 205 p1.toNatClampNeg))) m1))))))) : WT κ 0 [some (.inr 187), some (.inl p1)] [] mem := by
  refine tr_aload_n hC dX11_rowAt_0 rfl rfl ?_
  obtain ⟨post1, hM1, h⟩ := h
  refine tr_cVi (As := []) (fr2 := 5) (lo2 := 116) hC dX11_rowAt_1 mc_X11_156 mv_X11_findRow sh_187 rfl ⟨Nat.le_of_ble_eq_true rfl, Nat.le_of_ble_eq_true rfl, Nat.le_of_ble_eq_true rfl⟩ rfl hM1 (fun x1 m1 hp1 => ?_)
  replace h := h x1 m1 hp1
  refine tr_if_ne hC dX11_rowAt_4 (tgt := 12) rfl (fun c4 => ?_) (fun c4 => ?_)
  · replace h := h.2 c4
    refine tr_iload_n hC dX11_rowAt_12 rfl rfl ?_
    refine tr_iconst (v := 0) hC dX11_rowAt_13 (by decide) ?_
    refine tr_aload_n hC dX11_rowAt_14 rfl rfl ?_
    refine tr_gi (v := m1 187 26) hC dX11_rowAt_15 gf_X11_150 sh_187 rfl rfl ?_
    refine tr_iconst (v := 1) hC dX11_rowAt_18 (by decide) ?_
    refine tr_isub hC dX11_rowAt_19 ?_
    refine tr_xSi (As := [.inl p1, .inl 0, .inl ((m1 187 26) - 1)]) (fr2 := 0) (lo2 := 0) hC dX11_rowAt_20 mc_X11_89 mst_X11_in ⟨Nat.le_of_ble_eq_true rfl, Nat.le_of_ble_eq_true rfl, Nat.le_of_ble_eq_true rfl⟩ rfl (C_X11_in _ m1 p1 0 ((m1 187 26) - 1)) ?_
    refine tr_if_eq hC dX11_rowAt_23 (tgt := 35) rfl (fun c23 => ?_) (fun c23 => ?_)
    · replace h := h.1 c23
      refine tr_bipush (v := (-2)) hC dX11_rowAt_35 (by decide) ?_
      exact tr_iret hC hT dX11_rowAt_37 h
    · replace h := h.2 c23
      refine tr_aload_n hC dX11_rowAt_26 rfl rfl ?_
      refine tr_getr hC dX11_rowAt_27 gf_X11_74 sh_187 rfl ?_
      refine tr_iload_n hC dX11_rowAt_30 rfl rfl ?_
      obtain ⟨g1, h⟩ := h
      refine tr_al (v := m1 205 p1.toNatClampNeg) hC dX11_rowAt_31 sh_205 g1 rfl ?_
      refine tr_goto hC dX11_rowAt_32 (tgt := 37) rfl ?_
      exact tr_iret hC hT dX11_rowAt_37 h
  · replace h := h.1 c4
    refine tr_bipush (v := (-3)) hC dX11_rowAt_7 (by decide) ?_
    refine tr_goto hC dX11_rowAt_9 (tgt := 37) rfl ?_
    exact tr_iret hC hT dX11_rowAt_37 h
set_option maxRecDepth 100000 in
theorem K_X11_beside_0 {κ : TCx} {post0 : Option TV → TMem → Prop} (hC : TC κ RX11 cX11_beside 3 6 140) (hT : TR κ (some .int) post0) (mem : TMem) (h : ∃ post : Int32 → TMem → Prop, TMi κ.1.2.1 i_X11_findRow 5 116 [.inr 187] mem post ∧ ∀ (x1 : Int32) (m1 : TMem), post x1 m1 → ((x1 = 0 → (post0 (some (.inl (-3))) m1)) ∧ (¬ (x1 = 0) → (WT κ 15 [some (.inr 187), some (.inl 1000000), some (.inl 0)] [] m1)))) : WT κ 0 [some (.inr 187), none, none] [] mem := by
  refine tr_aload_n hC dX11_beside_0 rfl rfl ?_
  obtain ⟨post1, hM1, h⟩ := h
  refine tr_cVi (As := []) (fr2 := 5) (lo2 := 116) hC dX11_beside_1 mc_X11_156 mv_X11_findRow sh_187 rfl ⟨Nat.le_of_ble_eq_true rfl, Nat.le_of_ble_eq_true rfl, Nat.le_of_ble_eq_true rfl⟩ rfl hM1 (fun x1 m1 hp1 => ?_)
  replace h := h x1 m1 hp1
  refine tr_if_ne hC dX11_beside_4 (tgt := 10) rfl (fun c4 => ?_) (fun c4 => ?_)
  · replace h := h.2 c4
    refine tr_ldc hC dX11_beside_10 lc_X11_119 ?_
    refine tr_istore_n (loc2 := [some (.inr 187), some (.inl 1000000), none]) hC dX11_beside_12 rfl (by decide) rfl ?_
    refine tr_iconst (v := 0) hC dX11_beside_13 (by decide) ?_
    refine tr_istore_n (loc2 := [some (.inr 187), some (.inl 1000000), some (.inl 0)]) hC dX11_beside_14 rfl (by decide) rfl ?_
    exact h
  · replace h := h.1 c4
    refine tr_bipush (v := (-3)) hC dX11_beside_7 (by decide) ?_
    exact tr_iret hC hT dX11_beside_9 h
set_option maxRecDepth 100000 in
theorem K_X11_beside_15 {κ : TCx} {post0 : Option TV → TMem → Prop} (hC : TC κ RX11 cX11_beside 3 6 140) (hT : TR κ (some .int) post0) (mem : TMem) (v1 : Int32) (v2 : Int32) (h : ((mem 187 4) ≤ v2 → ((v1 = 1000000 → (post0 (some (.inl (-1))) mem)) ∧ (¬ (v1 = 1000000) → post0 (some (.inl v1)) mem))) ∧ (¬ ((mem 187 4) ≤ v2) → ((v2 = (mem 205 0) → (WT κ 15 [some (.inr 187), some (.inl v1), some (.inl (v2 + 1))] [] mem)) ∧ (¬ (v2 = (mem 205 0)) → (∃ post : Int32 → TMem → Prop, TMi κ.1.2.1 i_X11_withNext 1 22 [.inr 187, .inl 0, .inl (-1), .inl v2] mem post ∧ ∀ (x42 : Int32) (m42 : TMem), post x42 m42 → (WT κ 15 [some (.inr 187), some (.inl (F_X11_lesser v1 x42)), some (.inl (v2 + 1))] [] m42)))))) : WT κ 15 [some (.inr 187), some (.inl v1), some (.inl v2)] [] mem := by
  refine tr_iload_n hC dX11_beside_15 rfl rfl ?_
  refine tr_aload_n hC dX11_beside_16 rfl rfl ?_
  refine tr_gi (v := mem 187 4) hC dX11_beside_17 gf_X11_104 sh_187 rfl rfl ?_
  refine tr_icmp_ge hC dX11_beside_20 (tgt := 55) rfl (fun c20 => ?_) (fun c20 => ?_)
  · replace h := h.1 c20
    refine tr_iload_n hC dX11_beside_55 rfl rfl ?_
    refine tr_ldc hC dX11_beside_56 lc_X11_119 ?_
    refine tr_icmp_ne hC dX11_beside_58 (tgt := 65) rfl (fun c58 => ?_) (fun c58 => ?_)
    · replace h := h.2 c58
      refine tr_iload_n hC dX11_beside_65 rfl rfl ?_
      exact tr_iret hC hT dX11_beside_66 h
    · replace h := h.1 c58
      refine tr_iconst (v := (-1)) hC dX11_beside_61 (by decide) ?_
      refine tr_goto hC dX11_beside_62 (tgt := 66) rfl ?_
      exact tr_iret hC hT dX11_beside_66 h
  · replace h := h.2 c20
    refine tr_iload_n hC dX11_beside_23 rfl rfl ?_
    refine tr_aload_n hC dX11_beside_24 rfl rfl ?_
    refine tr_getr hC dX11_beside_25 gf_X11_74 sh_187 rfl ?_
    refine tr_iconst (v := 0) hC dX11_beside_28 (by decide) ?_
    refine tr_al (v := mem 205 0) hC dX11_beside_29 sh_205 (by unfold vp_in; decide) rfl ?_
    refine tr_icmp_ne hC dX11_beside_30 (tgt := 37) rfl (fun c30 => ?_) (fun c30 => ?_)
    · replace h := h.2 c30
      refine tr_iload_n hC dX11_beside_37 rfl rfl ?_
      refine tr_aload_n hC dX11_beside_38 rfl rfl ?_
      refine tr_iconst (v := 0) hC dX11_beside_39 (by decide) ?_
      refine tr_iconst (v := (-1)) hC dX11_beside_40 (by decide) ?_
      refine tr_iload_n hC dX11_beside_41 rfl rfl ?_
      obtain ⟨post42, hM42, h⟩ := h
      refine tr_cVi (As := [.inl 0, .inl (-1), .inl v2]) (fr2 := 1) (lo2 := 22) hC dX11_beside_42 mc_X11_140 mv_X11_withNext sh_187 rfl ⟨Nat.le_of_ble_eq_true rfl, Nat.le_of_ble_eq_true rfl, Nat.le_of_ble_eq_true rfl⟩ rfl hM42 (fun x42 m42 hp42 => ?_)
      replace h := h x42 m42 hp42
      refine tr_xSi (As := [.inl v1, .inl x42]) (fr2 := 0) (lo2 := 0) hC dX11_beside_45 mc_X11_120 mst_X11_lesser ⟨Nat.le_of_ble_eq_true rfl, Nat.le_of_ble_eq_true rfl, Nat.le_of_ble_eq_true rfl⟩ rfl (C_X11_lesser _ m42 v1 x42) ?_
      refine tr_istore_n (loc2 := [some (.inr 187), some (.inl (F_X11_lesser v1 x42)), some (.inl v2)]) hC dX11_beside_48 rfl (by decide) rfl ?_
      refine tr_iinc (v := v2 + 1) (loc2 := [some (.inr 187), some (.inl (F_X11_lesser v1 x42)), some (.inl (v2 + 1))]) hC dX11_beside_49 rfl rfl (by decide) rfl ?_
      refine tr_goto hC dX11_beside_52 (tgt := 15) rfl ?_
      exact h
    · replace h := h.1 c30
      refine tr_iload_n hC dX11_beside_33 rfl rfl ?_
      refine tr_goto hC dX11_beside_34 (tgt := 48) rfl ?_
      refine tr_istore_n (loc2 := [some (.inr 187), some (.inl v1), some (.inl v2)]) hC dX11_beside_48 rfl (by decide) rfl ?_
      refine tr_iinc (v := v2 + 1) (loc2 := [some (.inr 187), some (.inl v1), some (.inl (v2 + 1))]) hC dX11_beside_49 rfl rfl (by decide) rfl ?_
      refine tr_goto hC dX11_beside_52 (tgt := 15) rfl ?_
      exact h
set_option maxRecDepth 100000 in
theorem K_X11_bestWay_0 {κ : TCx} {post0 : Option TV → TMem → Prop} (hC : TC κ RX11 cX11_bestWay 5 1 23) (hT : TR κ (some .int) post0) (mem : TMem) (p1 : Int32) (p2 : Int32) (h : WT κ 6 [some (.inr 187), some (.inl p1), some (.inl p2), some (.inl 1000000), some (.inl 0)] [] mem) : WT κ 0 [some (.inr 187), some (.inl p1), some (.inl p2), none, none] [] mem := by
  refine tr_ldc hC dX11_bestWay_0 lc_X11_119 ?_
  refine tr_istore_n (loc2 := [some (.inr 187), some (.inl p1), some (.inl p2), some (.inl 1000000), none]) hC dX11_bestWay_2 rfl (by decide) rfl ?_
  refine tr_iconst (v := 0) hC dX11_bestWay_3 (by decide) ?_
  refine tr_istore (loc2 := [some (.inr 187), some (.inl p1), some (.inl p2), some (.inl 1000000), some (.inl 0)]) hC dX11_bestWay_4 (by decide) rfl ?_
  exact h
set_option maxRecDepth 100000 in
theorem K_X11_bestWay_6 {κ : TCx} {post0 : Option TV → TMem → Prop} (hC : TC κ RX11 cX11_bestWay 5 1 23) (hT : TR κ (some .int) post0) (mem : TMem) (v1 : Int32) (v2 : Int32) (v3 : Int32) (v4 : Int32) (h : vp_in v1 12 ∧ (vp_in (mem 194 v1.toNatClampNeg) 8 ∧ (((mem 190 (Int32.toNatClampNeg (mem 194 v1.toNatClampNeg))) ≤ v4 → post0 (some (.inl v3)) mem) ∧ (¬ ((mem 190 (Int32.toNatClampNeg (mem 194 v1.toNatClampNeg))) ≤ v4) → (((mem 187 0) ≤ v2 → post0 (some (.inl v3)) mem) ∧ (¬ ((mem 187 0) ≤ v2) → ((vp_in ((((((2 * v1) + v4) * 4) + 0) * 41) + v2) 3936) ∧ (WT κ 6 [some (.inr 187), some (.inl v1), some (.inl v2), some (.inl (F_X11_lesser v3 (mem 208 (Int32.toNatClampNeg ((((((2 * v1) + v4) * 4) + 0) * 41) + v2))))), some (.inl (v4 + 1))] [] mem)))))))) : WT κ 6 [some (.inr 187), some (.inl v1), some (.inl v2), some (.inl v3), some (.inl v4)] [] mem := by
  refine tr_iload hC dX11_bestWay_6 rfl ?_
  refine tr_aload_n hC dX11_bestWay_8 rfl rfl ?_
  refine tr_getr hC dX11_bestWay_9 gf_X11_20 sh_187 rfl ?_
  refine tr_aload_n hC dX11_bestWay_12 rfl rfl ?_
  refine tr_getr hC dX11_bestWay_13 gf_X11_32 sh_187 rfl ?_
  refine tr_iload_n hC dX11_bestWay_16 rfl rfl ?_
  obtain ⟨g1, h⟩ := h
  refine tr_al (v := mem 194 v1.toNatClampNeg) hC dX11_bestWay_17 sh_194 g1 rfl ?_
  obtain ⟨g2, h⟩ := h
  refine tr_al (v := mem 190 (Int32.toNatClampNeg (mem 194 v1.toNatClampNeg))) hC dX11_bestWay_18 sh_190 g2 rfl ?_
  refine tr_icmp_ge hC dX11_bestWay_19 (tgt := 54) rfl (fun c19 => ?_) (fun c19 => ?_)
  · replace h := h.1 c19
    refine tr_iload_n hC dX11_bestWay_54 rfl rfl ?_
    exact tr_iret hC hT dX11_bestWay_55 h
  · replace h := h.2 c19
    refine tr_iload_n hC dX11_bestWay_22 rfl rfl ?_
    refine tr_aload_n hC dX11_bestWay_23 rfl rfl ?_
    refine tr_gi (v := mem 187 0) hC dX11_bestWay_24 gf_X11_93 sh_187 rfl rfl ?_
    refine tr_icmp_ge hC dX11_bestWay_27 (tgt := 54) rfl (fun c27 => ?_) (fun c27 => ?_)
    · replace h := h.1 c27
      refine tr_iload_n hC dX11_bestWay_54 rfl rfl ?_
      exact tr_iret hC hT dX11_bestWay_55 h
    · replace h := h.2 c27
      refine tr_iload_n hC dX11_bestWay_30 rfl rfl ?_
      refine tr_aload_n hC dX11_bestWay_31 rfl rfl ?_
      refine tr_getr hC dX11_bestWay_32 gf_X11_83 sh_187 rfl ?_
      refine tr_iload_n hC dX11_bestWay_35 rfl rfl ?_
      refine tr_iload hC dX11_bestWay_36 rfl ?_
      refine tr_iconst (v := 0) hC dX11_bestWay_38 (by decide) ?_
      refine tr_iload_n hC dX11_bestWay_39 rfl rfl ?_
      refine tr_xSi (As := [.inl v1, .inl v4, .inl 0, .inl v2]) (fr2 := 0) (lo2 := 0) hC dX11_bestWay_40 mc_X11_166 mst_X11_aheadAt ⟨Nat.le_of_ble_eq_true rfl, Nat.le_of_ble_eq_true rfl, Nat.le_of_ble_eq_true rfl⟩ rfl (C_X11_aheadAt _ mem v1 v4 0 v2) ?_
      obtain ⟨g3, h⟩ := h
      refine tr_al (v := mem 208 (Int32.toNatClampNeg ((((((2 * v1) + v4) * 4) + 0) * 41) + v2))) hC dX11_bestWay_43 sh_208 g3 rfl ?_
      refine tr_xSi (As := [.inl v3, .inl (mem 208 (Int32.toNatClampNeg ((((((2 * v1) + v4) * 4) + 0) * 41) + v2)))]) (fr2 := 0) (lo2 := 0) hC dX11_bestWay_44 mc_X11_120 mst_X11_lesser ⟨Nat.le_of_ble_eq_true rfl, Nat.le_of_ble_eq_true rfl, Nat.le_of_ble_eq_true rfl⟩ rfl (C_X11_lesser _ mem v3 (mem 208 (Int32.toNatClampNeg ((((((2 * v1) + v4) * 4) + 0) * 41) + v2)))) ?_
      refine tr_istore_n (loc2 := [some (.inr 187), some (.inl v1), some (.inl v2), some (.inl (F_X11_lesser v3 (mem 208 (Int32.toNatClampNeg ((((((2 * v1) + v4) * 4) + 0) * 41) + v2))))), some (.inl v4)]) hC dX11_bestWay_47 rfl (by decide) rfl ?_
      refine tr_iinc (v := v4 + 1) (loc2 := [some (.inr 187), some (.inl v1), some (.inl v2), some (.inl (F_X11_lesser v3 (mem 208 (Int32.toNatClampNeg ((((((2 * v1) + v4) * 4) + 0) * 41) + v2))))), some (.inl (v4 + 1))]) hC dX11_bestWay_48 rfl rfl (by decide) rfl ?_
      refine tr_goto hC dX11_bestWay_51 (tgt := 6) rfl ?_
      exact h
set_option maxRecDepth 100000 in
theorem K_X11_behindWord_0 {κ : TCx} {post0 : Option TV → TMem → Prop} (hC : TC κ RX11 cX11_behindWord 4 2 47) (hT : TR κ (some .int) post0) (mem : TMem) (p1 : Int32) (p2 : Int32) (h : (p1 = ((mem 187 9) - 1) → ((p2 = (mem 187 0) → (vp_in p1 12 ∧ ((G_X11_behind (mem 194 p1.toNatClampNeg) (-1)) ∧ (((F_X11_behind mem (mem 194 p1.toNatClampNeg) (-1)) < 0 → post0 (some (.inl 1000000)) mem) ∧ (¬ ((F_X11_behind mem (mem 194 p1.toNatClampNeg) (-1)) < 0) → (post0 (some (.inl (F_X11_behind mem (mem 194 p1.toNatClampNeg) (-1)))) mem)))))) ∧ (¬ (p2 = (mem 187 0)) → post0 (some (.inl 1000000)) mem))) ∧ (¬ (p1 = ((mem 187 9) - 1)) → (vp_in p1 12 ∧ ((vp_in (p1 + 1) 12) ∧ ((G_X11_behind (mem 194 p1.toNatClampNeg) (mem 194 (Int32.toNatClampNeg (p1 + 1)))) ∧ ((0 ≤ (F_X11_behind mem (mem 194 p1.toNatClampNeg) (mem 194 (Int32.toNatClampNeg (p1 + 1)))) → (∃ post : Int32 → TMem → Prop, TMi κ.1.2.1 i_X11_bestWay 1 23 [.inr 187, .inl (p1 + 1), .inl p2] mem post ∧ ∀ (x85 : Int32) (m85 : TMem), post x85 m85 → (post0 (some (.inl (F_X11_lesser 1000000 ((F_X11_behind mem (mem 194 p1.toNatClampNeg) (mem 194 (Int32.toNatClampNeg (p1 + 1)))) + x85)))) m85))) ∧ (¬ (0 ≤ (F_X11_behind mem (mem 194 p1.toNatClampNeg) (mem 194 (Int32.toNatClampNeg (p1 + 1))))) → post0 (some (.inl 1000000)) mem))))))) : WT κ 0 [some (.inr 187), some (.inl p1), some (.inl p2), none] [] mem := by
  refine tr_iload_n hC dX11_behindWord_0 rfl rfl ?_
  refine tr_aload_n hC dX11_behindWord_1 rfl rfl ?_
  refine tr_gi (v := mem 187 9) hC dX11_behindWord_2 gf_X11_160 sh_187 rfl rfl ?_
  refine tr_iconst (v := 1) hC dX11_behindWord_5 (by decide) ?_
  refine tr_isub hC dX11_behindWord_6 ?_
  refine tr_icmp_ne hC dX11_behindWord_7 (tgt := 49) rfl (fun c7 => ?_) (fun c7 => ?_)
  · replace h := h.2 c7
    refine tr_aload_n hC dX11_behindWord_49 rfl rfl ?_
    refine tr_aload_n hC dX11_behindWord_50 rfl rfl ?_
    refine tr_getr hC dX11_behindWord_51 gf_X11_32 sh_187 rfl ?_
    refine tr_iload_n hC dX11_behindWord_54 rfl rfl ?_
    obtain ⟨g1, h⟩ := h
    refine tr_al (v := mem 194 p1.toNatClampNeg) hC dX11_behindWord_55 sh_194 g1 rfl ?_
    refine tr_aload_n hC dX11_behindWord_56 rfl rfl ?_
    refine tr_getr hC dX11_behindWord_57 gf_X11_32 sh_187 rfl ?_
    refine tr_iload_n hC dX11_behindWord_60 rfl rfl ?_
    refine tr_iconst (v := 1) hC dX11_behindWord_61 (by decide) ?_
    refine tr_iadd hC dX11_behindWord_62 ?_
    obtain ⟨g2, h⟩ := h
    refine tr_al (v := mem 194 (Int32.toNatClampNeg (p1 + 1))) hC dX11_behindWord_63 sh_194 g2 rfl ?_
    obtain ⟨g3, h⟩ := h
    refine tr_xVi (As := [.inl (mem 194 p1.toNatClampNeg), .inl (mem 194 (Int32.toNatClampNeg (p1 + 1)))]) (fr2 := 0) (lo2 := 0) hC dX11_behindWord_64 mc_X11_115 mv_X11_behind sh_187 rfl ⟨Nat.le_of_ble_eq_true rfl, Nat.le_of_ble_eq_true rfl, Nat.le_of_ble_eq_true rfl⟩ rfl (C_X11_behind _ mem (mem 194 p1.toNatClampNeg) (mem 194 (Int32.toNatClampNeg (p1 + 1))) g3) ?_
    refine tr_istore_n (loc2 := [some (.inr 187), some (.inl p1), some (.inl p2), some (.inl (F_X11_behind mem (mem 194 p1.toNatClampNeg) (mem 194 (Int32.toNatClampNeg (p1 + 1)))))]) hC dX11_behindWord_67 rfl (by decide) rfl ?_
    refine tr_iload_n hC dX11_behindWord_68 rfl rfl ?_
    refine tr_if_ge hC dX11_behindWord_69 (tgt := 77) rfl (fun c69 => ?_) (fun c69 => ?_)
    · replace h := h.1 c69
      refine tr_ldc hC dX11_behindWord_77 lc_X11_119 ?_
      refine tr_iload_n hC dX11_behindWord_79 rfl rfl ?_
      refine tr_aload_n hC dX11_behindWord_80 rfl rfl ?_
      refine tr_iload_n hC dX11_behindWord_81 rfl rfl ?_
      refine tr_iconst (v := 1) hC dX11_behindWord_82 (by decide) ?_
      refine tr_iadd hC dX11_behindWord_83 ?_
      refine tr_iload_n hC dX11_behindWord_84 rfl rfl ?_
      obtain ⟨post85, hM85, h⟩ := h
      refine tr_cVi (As := [.inl (p1 + 1), .inl p2]) (fr2 := 1) (lo2 := 23) hC dX11_behindWord_85 mc_X11_163 mv_X11_bestWay sh_187 rfl ⟨Nat.le_of_ble_eq_true rfl, Nat.le_of_ble_eq_true rfl, Nat.le_of_ble_eq_true rfl⟩ rfl hM85 (fun x85 m85 hp85 => ?_)
      replace h := h x85 m85 hp85
      refine tr_iadd hC dX11_behindWord_88 ?_
      refine tr_xSi (As := [.inl 1000000, .inl ((F_X11_behind mem (mem 194 p1.toNatClampNeg) (mem 194 (Int32.toNatClampNeg (p1 + 1)))) + x85)]) (fr2 := 0) (lo2 := 0) hC dX11_behindWord_89 mc_X11_120 mst_X11_lesser ⟨Nat.le_of_ble_eq_true rfl, Nat.le_of_ble_eq_true rfl, Nat.le_of_ble_eq_true rfl⟩ rfl (C_X11_lesser _ m85 1000000 ((F_X11_behind mem (mem 194 p1.toNatClampNeg) (mem 194 (Int32.toNatClampNeg (p1 + 1)))) + x85)) ?_
      exact tr_iret hC hT dX11_behindWord_92 h
    · replace h := h.2 c69
      refine tr_ldc hC dX11_behindWord_72 lc_X11_119 ?_
      refine tr_goto hC dX11_behindWord_74 (tgt := 92) rfl ?_
      exact tr_iret hC hT dX11_behindWord_92 h
  · replace h := h.1 c7
    refine tr_iload_n hC dX11_behindWord_10 rfl rfl ?_
    refine tr_aload_n hC dX11_behindWord_11 rfl rfl ?_
    refine tr_gi (v := mem 187 0) hC dX11_behindWord_12 gf_X11_93 sh_187 rfl rfl ?_
    refine tr_icmp_ne hC dX11_behindWord_15 (tgt := 46) rfl (fun c15 => ?_) (fun c15 => ?_)
    · replace h := h.2 c15
      refine tr_ldc hC dX11_behindWord_46 lc_X11_119 ?_
      exact tr_iret hC hT dX11_behindWord_48 h
    · replace h := h.1 c15
      refine tr_aload_n hC dX11_behindWord_18 rfl rfl ?_
      refine tr_aload_n hC dX11_behindWord_19 rfl rfl ?_
      refine tr_getr hC dX11_behindWord_20 gf_X11_32 sh_187 rfl ?_
      refine tr_iload_n hC dX11_behindWord_23 rfl rfl ?_
      obtain ⟨g4, h⟩ := h
      refine tr_al (v := mem 194 p1.toNatClampNeg) hC dX11_behindWord_24 sh_194 g4 rfl ?_
      refine tr_iconst (v := (-1)) hC dX11_behindWord_25 (by decide) ?_
      obtain ⟨g5, h⟩ := h
      refine tr_xVi (As := [.inl (mem 194 p1.toNatClampNeg), .inl (-1)]) (fr2 := 0) (lo2 := 0) hC dX11_behindWord_26 mc_X11_115 mv_X11_behind sh_187 rfl ⟨Nat.le_of_ble_eq_true rfl, Nat.le_of_ble_eq_true rfl, Nat.le_of_ble_eq_true rfl⟩ rfl (C_X11_behind _ mem (mem 194 p1.toNatClampNeg) (-1) g5) ?_
      refine tr_if_lt hC dX11_behindWord_29 (tgt := 46) rfl (fun c29 => ?_) (fun c29 => ?_)
      · replace h := h.1 c29
        refine tr_ldc hC dX11_behindWord_46 lc_X11_119 ?_
        exact tr_iret hC hT dX11_behindWord_48 h
      · replace h := h.2 c29
        refine tr_aload_n hC dX11_behindWord_32 rfl rfl ?_
        refine tr_aload_n hC dX11_behindWord_33 rfl rfl ?_
        refine tr_getr hC dX11_behindWord_34 gf_X11_32 sh_187 rfl ?_
        refine tr_iload_n hC dX11_behindWord_37 rfl rfl ?_
        refine tr_al (v := mem 194 p1.toNatClampNeg) hC dX11_behindWord_38 sh_194 g4 rfl ?_
        refine tr_iconst (v := (-1)) hC dX11_behindWord_39 (by decide) ?_
        refine tr_xVi (As := [.inl (mem 194 p1.toNatClampNeg), .inl (-1)]) (fr2 := 0) (lo2 := 0) hC dX11_behindWord_40 mc_X11_115 mv_X11_behind sh_187 rfl ⟨Nat.le_of_ble_eq_true rfl, Nat.le_of_ble_eq_true rfl, Nat.le_of_ble_eq_true rfl⟩ rfl (C_X11_behind _ mem (mem 194 p1.toNatClampNeg) (-1) g5) ?_
        refine tr_goto hC dX11_behindWord_43 (tgt := 48) rfl ?_
        exact tr_iret hC hT dX11_behindWord_48 h
set_option maxRecDepth 100000 in
theorem K_X11_soundTo_0 {κ : TCx} {post0 : Option TV → TMem → Prop} (hC : TC κ RX11 cX11_soundTo 10 3 70) (hT : TR κ (some .int) post0) (mem : TMem) (p1 : Int32) (p2 : Int32) (p3 : Int32) (p4 : Int32) (p5 : Int32) (h : vp_in p1 12 ∧ (WT κ 30 [some (.inr 187), some (.inl p1), some (.inl p2), some (.inl p3), none, some (.inl p5), some (.inl ((2 * (mem 194 p1.toNatClampNeg)) + p2)), some (.inl ((mem 187 3) * ((p5 - p4) - 1))), some (.inl p4), none] [] mem)) : WT κ 0 [some (.inr 187), some (.inl p1), some (.inl p2), some (.inl p3), some (.inl p4), some (.inl p5), none, none, none, none] [] mem := by
  refine tr_iconst (v := 2) hC dX11_soundTo_0 (by decide) ?_
  refine tr_aload_n hC dX11_soundTo_1 rfl rfl ?_
  refine tr_getr hC dX11_soundTo_2 gf_X11_32 sh_187 rfl ?_
  refine tr_iload_n hC dX11_soundTo_5 rfl rfl ?_
  obtain ⟨g1, h⟩ := h
  refine tr_al (v := mem 194 p1.toNatClampNeg) hC dX11_soundTo_6 sh_194 g1 rfl ?_
  refine tr_imul hC dX11_soundTo_7 ?_
  refine tr_iload_n hC dX11_soundTo_8 rfl rfl ?_
  refine tr_iadd hC dX11_soundTo_9 ?_
  refine tr_istore (loc2 := [some (.inr 187), some (.inl p1), some (.inl p2), some (.inl p3), some (.inl p4), some (.inl p5), some (.inl ((2 * (mem 194 p1.toNatClampNeg)) + p2)), none, none, none]) hC dX11_soundTo_10 (by decide) rfl ?_
  refine tr_aload_n hC dX11_soundTo_12 rfl rfl ?_
  refine tr_gi (v := mem 187 3) hC dX11_soundTo_13 gf_X11_16 sh_187 rfl rfl ?_
  refine tr_iload hC dX11_soundTo_16 rfl ?_
  refine tr_iload hC dX11_soundTo_18 rfl ?_
  refine tr_isub hC dX11_soundTo_20 ?_
  refine tr_iconst (v := 1) hC dX11_soundTo_21 (by decide) ?_
  refine tr_isub hC dX11_soundTo_22 ?_
  refine tr_imul hC dX11_soundTo_23 ?_
  refine tr_istore (loc2 := [some (.inr 187), some (.inl p1), some (.inl p2), some (.inl p3), some (.inl p4), some (.inl p5), some (.inl ((2 * (mem 194 p1.toNatClampNeg)) + p2)), some (.inl ((mem 187 3) * ((p5 - p4) - 1))), none, none]) hC dX11_soundTo_24 (by decide) rfl ?_
  refine tr_iload hC dX11_soundTo_26 rfl ?_
  refine tr_istore (loc2 := [some (.inr 187), some (.inl p1), some (.inl p2), some (.inl p3), some (.inl p4), some (.inl p5), some (.inl ((2 * (mem 194 p1.toNatClampNeg)) + p2)), some (.inl ((mem 187 3) * ((p5 - p4) - 1))), some (.inl p4), none]) hC dX11_soundTo_28 (by decide) rfl ?_
  exact tr_weak (tl_s (tl_s (tl_s (tl_s (tl_n (tl_s (tl_s (tl_s (tl_s (tl_n (tl_nil _))))))))))) h
set_option maxRecDepth 100000 in
theorem K_X11_soundTo_30 {κ : TCx} {post0 : Option TV → TMem → Prop} (hC : TC κ RX11 cX11_soundTo 10 3 70) (hT : TR κ (some .int) post0) (mem : TMem) (v1 : Int32) (v2 : Int32) (v3 : Int32) (v5 : Int32) (v6 : Int32) (v7 : Int32) (v8 : Int32) (h : (v5 ≤ v8 → (vp_in v6 16 ∧ ((v3 = ((mem 191 v6.toNatClampNeg) - 1) → (∃ post : Int32 → TMem → Prop, TMi κ.1.2.1 i_X11_behindWord 2 47 [.inr 187, .inl v1, .inl v5] mem post ∧ ∀ (x94 : Int32) (m94 : TMem), post x94 m94 → (post0 (some (.inl (F_X11_lesser 1000000 (v7 + x94)))) m94))) ∧ (¬ (v3 = ((mem 191 v6.toNatClampNeg) - 1)) → (((mem 187 0) ≤ v5 → (post0 (some (.inl (F_X11_lesser 1000000 (v7 + 1000000)))) mem)) ∧ (¬ ((mem 187 0) ≤ v5) → ((vp_in ((((((2 * v1) + v2) * 4) + (v3 + 1)) * 41) + v5) 3936) ∧ (post0 (some (.inl (F_X11_lesser 1000000 (v7 + (mem 208 (Int32.toNatClampNeg ((((((2 * v1) + v2) * 4) + (v3 + 1)) * 41) + v5))))))) mem)))))))) ∧ (¬ (v5 ≤ v8) → ((vp_in ((4 * v6) + v3) 64) ∧ ((G_X11_costOf mem (mem 192 (Int32.toNatClampNeg ((4 * v6) + v3))) v8) ∧ (WT κ 30 [some (.inr 187), some (.inl v1), some (.inl v2), some (.inl v3), none, some (.inl v5), some (.inl v6), some (.inl (v7 + (F_X11_costOf mem (mem 192 (Int32.toNatClampNeg ((4 * v6) + v3))) v8))), some (.inl (v8 + 1)), none] [] mem))))) : WT κ 30 [some (.inr 187), some (.inl v1), some (.inl v2), some (.inl v3), none, some (.inl v5), some (.inl v6), some (.inl v7), some (.inl v8), none] [] mem := by
  refine tr_iload hC dX11_soundTo_30 rfl ?_
  refine tr_iload hC dX11_soundTo_32 rfl ?_
  refine tr_icmp_ge hC dX11_soundTo_34 (tgt := 65) rfl (fun c34 => ?_) (fun c34 => ?_)
  · replace h := h.1 c34
    refine tr_iload_n hC dX11_soundTo_65 rfl rfl ?_
    refine tr_aload_n hC dX11_soundTo_66 rfl rfl ?_
    refine tr_getr hC dX11_soundTo_67 gf_X11_23 sh_187 rfl ?_
    refine tr_iload hC dX11_soundTo_70 rfl ?_
    obtain ⟨g1, h⟩ := h
    refine tr_al (v := mem 191 v6.toNatClampNeg) hC dX11_soundTo_72 sh_191 g1 rfl ?_
    refine tr_iconst (v := 1) hC dX11_soundTo_73 (by decide) ?_
    refine tr_isub hC dX11_soundTo_74 ?_
    refine tr_icmp_ne hC dX11_soundTo_75 (tgt := 82) rfl (fun c75 => ?_) (fun c75 => ?_)
    · replace h := h.2 c75
      refine tr_iconst (v := 0) hC dX11_soundTo_82 (by decide) ?_
      refine tr_istore (loc2 := [some (.inr 187), some (.inl v1), some (.inl v2), some (.inl v3), none, some (.inl v5), some (.inl v6), some (.inl v7), some (.inl 0), none]) hC dX11_soundTo_83 (by decide) rfl ?_
      refine tr_iload hC dX11_soundTo_85 rfl ?_
      refine tr_if_eq hC dX11_soundTo_87 (tgt := 100) rfl (fun _ => ?_) (fun h => absurd h (by decide))
      refine tr_iload hC dX11_soundTo_100 rfl ?_
      refine tr_aload_n hC dX11_soundTo_102 rfl rfl ?_
      refine tr_gi (v := mem 187 0) hC dX11_soundTo_103 gf_X11_93 sh_187 rfl rfl ?_
      refine tr_icmp_ge hC dX11_soundTo_106 (tgt := 127) rfl (fun c106 => ?_) (fun c106 => ?_)
      · replace h := h.1 c106
        refine tr_ldc hC dX11_soundTo_127 lc_X11_119 ?_
        refine tr_istore (loc2 := [some (.inr 187), some (.inl v1), some (.inl v2), some (.inl v3), none, some (.inl v5), some (.inl v6), some (.inl v7), some (.inl 0), some (.inl 1000000)]) hC dX11_soundTo_129 (by decide) rfl ?_
        refine tr_ldc hC dX11_soundTo_131 lc_X11_119 ?_
        refine tr_iload hC dX11_soundTo_133 rfl ?_
        refine tr_iload hC dX11_soundTo_135 rfl ?_
        refine tr_iadd hC dX11_soundTo_137 ?_
        refine tr_xSi (As := [.inl 1000000, .inl (v7 + 1000000)]) (fr2 := 0) (lo2 := 0) hC dX11_soundTo_138 mc_X11_120 mst_X11_lesser ⟨Nat.le_of_ble_eq_true rfl, Nat.le_of_ble_eq_true rfl, Nat.le_of_ble_eq_true rfl⟩ rfl (C_X11_lesser _ mem 1000000 (v7 + 1000000)) ?_
        exact tr_iret hC hT dX11_soundTo_141 h
      · replace h := h.2 c106
        refine tr_aload_n hC dX11_soundTo_109 rfl rfl ?_
        refine tr_getr hC dX11_soundTo_110 gf_X11_83 sh_187 rfl ?_
        refine tr_iload_n hC dX11_soundTo_113 rfl rfl ?_
        refine tr_iload_n hC dX11_soundTo_114 rfl rfl ?_
        refine tr_iload_n hC dX11_soundTo_115 rfl rfl ?_
        refine tr_iconst (v := 1) hC dX11_soundTo_116 (by decide) ?_
        refine tr_iadd hC dX11_soundTo_117 ?_
        refine tr_iload hC dX11_soundTo_118 rfl ?_
        refine tr_xSi (As := [.inl v1, .inl v2, .inl (v3 + 1), .inl v5]) (fr2 := 0) (lo2 := 0) hC dX11_soundTo_120 mc_X11_166 mst_X11_aheadAt ⟨Nat.le_of_ble_eq_true rfl, Nat.le_of_ble_eq_true rfl, Nat.le_of_ble_eq_true rfl⟩ rfl (C_X11_aheadAt _ mem v1 v2 (v3 + 1) v5) ?_
        obtain ⟨g2, h⟩ := h
        refine tr_al (v := mem 208 (Int32.toNatClampNeg ((((((2 * v1) + v2) * 4) + (v3 + 1)) * 41) + v5))) hC dX11_soundTo_123 sh_208 g2 rfl ?_
        refine tr_goto hC dX11_soundTo_124 (tgt := 129) rfl ?_
        refine tr_istore (loc2 := [some (.inr 187), some (.inl v1), some (.inl v2), some (.inl v3), none, some (.inl v5), some (.inl v6), some (.inl v7), some (.inl 0), some (.inl (mem 208 (Int32.toNatClampNeg ((((((2 * v1) + v2) * 4) + (v3 + 1)) * 41) + v5))))]) hC dX11_soundTo_129 (by decide) rfl ?_
        refine tr_ldc hC dX11_soundTo_131 lc_X11_119 ?_
        refine tr_iload hC dX11_soundTo_133 rfl ?_
        refine tr_iload hC dX11_soundTo_135 rfl ?_
        refine tr_iadd hC dX11_soundTo_137 ?_
        refine tr_xSi (As := [.inl 1000000, .inl (v7 + (mem 208 (Int32.toNatClampNeg ((((((2 * v1) + v2) * 4) + (v3 + 1)) * 41) + v5))))]) (fr2 := 0) (lo2 := 0) hC dX11_soundTo_138 mc_X11_120 mst_X11_lesser ⟨Nat.le_of_ble_eq_true rfl, Nat.le_of_ble_eq_true rfl, Nat.le_of_ble_eq_true rfl⟩ rfl (C_X11_lesser _ mem 1000000 (v7 + (mem 208 (Int32.toNatClampNeg ((((((2 * v1) + v2) * 4) + (v3 + 1)) * 41) + v5))))) ?_
        exact tr_iret hC hT dX11_soundTo_141 h
    · replace h := h.1 c75
      refine tr_iconst (v := 1) hC dX11_soundTo_78 (by decide) ?_
      refine tr_goto hC dX11_soundTo_79 (tgt := 83) rfl ?_
      refine tr_istore (loc2 := [some (.inr 187), some (.inl v1), some (.inl v2), some (.inl v3), none, some (.inl v5), some (.inl v6), some (.inl v7), some (.inl 1), none]) hC dX11_soundTo_83 (by decide) rfl ?_
      refine tr_iload hC dX11_soundTo_85 rfl ?_
      refine tr_if_eq hC dX11_soundTo_87 (tgt := 100) rfl (fun h => absurd h (by decide)) (fun _ => ?_)
      refine tr_aload_n hC dX11_soundTo_90 rfl rfl ?_
      refine tr_iload_n hC dX11_soundTo_91 rfl rfl ?_
      refine tr_iload hC dX11_soundTo_92 rfl ?_
      obtain ⟨post94, hM94, h⟩ := h
      refine tr_cVi (As := [.inl v1, .inl v5]) (fr2 := 2) (lo2 := 47) hC dX11_soundTo_94 mc_X11_169 mv_X11_behindWord sh_187 rfl ⟨Nat.le_of_ble_eq_true rfl, Nat.le_of_ble_eq_true rfl, Nat.le_of_ble_eq_true rfl⟩ rfl hM94 (fun x94 m94 hp94 => ?_)
      replace h := h x94 m94 hp94
      refine tr_goto hC dX11_soundTo_97 (tgt := 129) rfl ?_
      refine tr_istore (loc2 := [some (.inr 187), some (.inl v1), some (.inl v2), some (.inl v3), none, some (.inl v5), some (.inl v6), some (.inl v7), some (.inl 1), some (.inl x94)]) hC dX11_soundTo_129 (by decide) rfl ?_
      refine tr_ldc hC dX11_soundTo_131 lc_X11_119 ?_
      refine tr_iload hC dX11_soundTo_133 rfl ?_
      refine tr_iload hC dX11_soundTo_135 rfl ?_
      refine tr_iadd hC dX11_soundTo_137 ?_
      refine tr_xSi (As := [.inl 1000000, .inl (v7 + x94)]) (fr2 := 0) (lo2 := 0) hC dX11_soundTo_138 mc_X11_120 mst_X11_lesser ⟨Nat.le_of_ble_eq_true rfl, Nat.le_of_ble_eq_true rfl, Nat.le_of_ble_eq_true rfl⟩ rfl (C_X11_lesser _ m94 1000000 (v7 + x94)) ?_
      exact tr_iret hC hT dX11_soundTo_141 h
  · replace h := h.2 c34
    refine tr_iload hC dX11_soundTo_37 rfl ?_
    refine tr_aload_n hC dX11_soundTo_39 rfl rfl ?_
    refine tr_aload_n hC dX11_soundTo_40 rfl rfl ?_
    refine tr_getr hC dX11_soundTo_41 gf_X11_26 sh_187 rfl ?_
    refine tr_iconst (v := 4) hC dX11_soundTo_44 (by decide) ?_
    refine tr_iload hC dX11_soundTo_45 rfl ?_
    refine tr_imul hC dX11_soundTo_47 ?_
    refine tr_iload_n hC dX11_soundTo_48 rfl rfl ?_
    refine tr_iadd hC dX11_soundTo_49 ?_
    obtain ⟨g3, h⟩ := h
    refine tr_al (v := mem 192 (Int32.toNatClampNeg ((4 * v6) + v3))) hC dX11_soundTo_50 sh_192 g3 rfl ?_
    refine tr_iload hC dX11_soundTo_51 rfl ?_
    obtain ⟨g4, h⟩ := h
    refine tr_xVi (As := [.inl (mem 192 (Int32.toNatClampNeg ((4 * v6) + v3))), .inl v8]) (fr2 := 0) (lo2 := 0) hC dX11_soundTo_53 mc_X11_123 mv_X11_costOf sh_187 rfl ⟨Nat.le_of_ble_eq_true rfl, Nat.le_of_ble_eq_true rfl, Nat.le_of_ble_eq_true rfl⟩ rfl (C_X11_costOf _ mem (mem 192 (Int32.toNatClampNeg ((4 * v6) + v3))) v8 g4) ?_
    refine tr_iadd hC dX11_soundTo_56 ?_
    refine tr_istore (loc2 := [some (.inr 187), some (.inl v1), some (.inl v2), some (.inl v3), none, some (.inl v5), some (.inl v6), some (.inl (v7 + (F_X11_costOf mem (mem 192 (Int32.toNatClampNeg ((4 * v6) + v3))) v8))), some (.inl v8), none]) hC dX11_soundTo_57 (by decide) rfl ?_
    refine tr_iinc (v := v8 + 1) (loc2 := [some (.inr 187), some (.inl v1), some (.inl v2), some (.inl v3), none, some (.inl v5), some (.inl v6), some (.inl (v7 + (F_X11_costOf mem (mem 192 (Int32.toNatClampNeg ((4 * v6) + v3))) v8))), some (.inl (v8 + 1)), none]) hC dX11_soundTo_59 rfl rfl (by decide) rfl ?_
    refine tr_goto hC dX11_soundTo_62 (tgt := 30) rfl ?_
    exact h
set_option maxRecDepth 100000 in
theorem K_X11_layAhead_0 {κ : TCx} {post0 : Option TV → TMem → Prop} (hC : TC κ RX11 cX11_layAhead 7 4 99) (hT : TR κ none post0) (mem : TMem) (h : WT κ 7 [some (.inr 187), some (.inl ((mem 187 9) - 1)), none, none, none, none, none] [] mem) : WT κ 0 [some (.inr 187), none, none, none, none, none, none] [] mem := by
  refine tr_aload_n hC dX11_layAhead_0 rfl rfl ?_
  refine tr_gi (v := mem 187 9) hC dX11_layAhead_1 gf_X11_160 sh_187 rfl rfl ?_
  refine tr_iconst (v := 1) hC dX11_layAhead_4 (by decide) ?_
  refine tr_isub hC dX11_layAhead_5 ?_
  refine tr_istore_n (loc2 := [some (.inr 187), some (.inl ((mem 187 9) - 1)), none, none, none, none, none]) hC dX11_layAhead_6 rfl (by decide) rfl ?_
  exact h
set_option maxRecDepth 100000 in
theorem K_X11_layAhead_7 {κ : TCx} {post0 : Option TV → TMem → Prop} (hC : TC κ RX11 cX11_layAhead 7 4 99) (hT : TR κ none post0) (mem : TMem) (v1 : Int32) (h : (v1 < 0 → post0 none mem) ∧ (¬ (v1 < 0) → (WT κ 18 [some (.inr 187), some (.inl v1), some (.inl ((mem 187 0) - 1)), none, none, none, none] [] mem))) : WT κ 7 [some (.inr 187), some (.inl v1), none, none, none, none, none] [] mem := by
  refine tr_iload_n hC dX11_layAhead_7 rfl rfl ?_
  refine tr_if_lt hC dX11_layAhead_8 (tgt := 144) rfl (fun c8 => ?_) (fun c8 => ?_)
  · replace h := h.1 c8
    exact tr_vret hC hT dX11_layAhead_144 h
  · replace h := h.2 c8
    refine tr_aload_n hC dX11_layAhead_11 rfl rfl ?_
    refine tr_gi (v := mem 187 0) hC dX11_layAhead_12 gf_X11_93 sh_187 rfl rfl ?_
    refine tr_iconst (v := 1) hC dX11_layAhead_15 (by decide) ?_
    refine tr_isub hC dX11_layAhead_16 ?_
    refine tr_istore_n (loc2 := [some (.inr 187), some (.inl v1), some (.inl ((mem 187 0) - 1)), none, none, none, none]) hC dX11_layAhead_17 rfl (by decide) rfl ?_
    exact h
set_option maxRecDepth 100000 in
theorem K_X11_layAhead_18 {κ : TCx} {post0 : Option TV → TMem → Prop} (hC : TC κ RX11 cX11_layAhead 7 4 99) (hT : TR κ none post0) (mem : TMem) (v1 : Int32) (v2 : Int32) (h : (v2 < 0 → (WT κ 7 [some (.inr 187), some (.inl (v1 + (-1))), none, none, none, none, none] [] mem)) ∧ (¬ (v2 < 0) → (WT κ 24 [some (.inr 187), some (.inl v1), some (.inl v2), some (.inl 0), none, none, none] [] mem))) : WT κ 18 [some (.inr 187), some (.inl v1), some (.inl v2), none, none, none, none] [] mem := by
  refine tr_iload_n hC dX11_layAhead_18 rfl rfl ?_
  refine tr_if_lt hC dX11_layAhead_19 (tgt := 138) rfl (fun c19 => ?_) (fun c19 => ?_)
  · replace h := h.1 c19
    refine tr_iinc (v := v1 + (-1)) (loc2 := [some (.inr 187), some (.inl (v1 + (-1))), some (.inl v2), none, none, none, none]) hC dX11_layAhead_138 rfl rfl (by decide) rfl ?_
    refine tr_goto hC dX11_layAhead_141 (tgt := 7) rfl ?_
    exact tr_weak (tl_s (tl_s (tl_n (tl_n (tl_n (tl_n (tl_n (tl_nil _)))))))) h
  · replace h := h.2 c19
    refine tr_iconst (v := 0) hC dX11_layAhead_22 (by decide) ?_
    refine tr_istore_n (loc2 := [some (.inr 187), some (.inl v1), some (.inl v2), some (.inl 0), none, none, none]) hC dX11_layAhead_23 rfl (by decide) rfl ?_
    exact h
set_option maxRecDepth 100000 in
theorem K_X11_layAhead_24 {κ : TCx} {post0 : Option TV → TMem → Prop} (hC : TC κ RX11 cX11_layAhead 7 4 99) (hT : TR κ none post0) (mem : TMem) (v1 : Int32) (v2 : Int32) (v3 : Int32) (h : vp_in v1 12 ∧ (vp_in (mem 194 v1.toNatClampNeg) 8 ∧ (((mem 190 (Int32.toNatClampNeg (mem 194 v1.toNatClampNeg))) ≤ v3 → (WT κ 18 [some (.inr 187), some (.inl v1), some (.inl (v2 + (-1))), none, none, none, none] [] mem)) ∧ (¬ ((mem 190 (Int32.toNatClampNeg (mem 194 v1.toNatClampNeg))) ≤ v3) → ((vp_in ((2 * (mem 194 v1.toNatClampNeg)) + v3) 16) ∧ (WT κ 58 [some (.inr 187), some (.inl v1), some (.inl v2), some (.inl v3), some (.inl ((mem 191 (Int32.toNatClampNeg ((2 * (mem 194 v1.toNatClampNeg)) + v3))) - 1)), none, none] [] mem)))))) : WT κ 24 [some (.inr 187), some (.inl v1), some (.inl v2), some (.inl v3), none, none, none] [] mem := by
  refine tr_iload_n hC dX11_layAhead_24 rfl rfl ?_
  refine tr_aload_n hC dX11_layAhead_25 rfl rfl ?_
  refine tr_getr hC dX11_layAhead_26 gf_X11_20 sh_187 rfl ?_
  refine tr_aload_n hC dX11_layAhead_29 rfl rfl ?_
  refine tr_getr hC dX11_layAhead_30 gf_X11_32 sh_187 rfl ?_
  refine tr_iload_n hC dX11_layAhead_33 rfl rfl ?_
  obtain ⟨g1, h⟩ := h
  refine tr_al (v := mem 194 v1.toNatClampNeg) hC dX11_layAhead_34 sh_194 g1 rfl ?_
  obtain ⟨g2, h⟩ := h
  refine tr_al (v := mem 190 (Int32.toNatClampNeg (mem 194 v1.toNatClampNeg))) hC dX11_layAhead_35 sh_190 g2 rfl ?_
  refine tr_icmp_ge hC dX11_layAhead_36 (tgt := 132) rfl (fun c36 => ?_) (fun c36 => ?_)
  · replace h := h.1 c36
    refine tr_iinc (v := v2 + (-1)) (loc2 := [some (.inr 187), some (.inl v1), some (.inl (v2 + (-1))), some (.inl v3), none, none, none]) hC dX11_layAhead_132 rfl rfl (by decide) rfl ?_
    refine tr_goto hC dX11_layAhead_135 (tgt := 18) rfl ?_
    exact tr_weak (tl_s (tl_s (tl_s (tl_n (tl_n (tl_n (tl_n (tl_nil _)))))))) h
  · replace h := h.2 c36
    refine tr_aload_n hC dX11_layAhead_39 rfl rfl ?_
    refine tr_getr hC dX11_layAhead_40 gf_X11_23 sh_187 rfl ?_
    refine tr_iconst (v := 2) hC dX11_layAhead_43 (by decide) ?_
    refine tr_aload_n hC dX11_layAhead_44 rfl rfl ?_
    refine tr_getr hC dX11_layAhead_45 gf_X11_32 sh_187 rfl ?_
    refine tr_iload_n hC dX11_layAhead_48 rfl rfl ?_
    refine tr_al (v := mem 194 v1.toNatClampNeg) hC dX11_layAhead_49 sh_194 g1 rfl ?_
    refine tr_imul hC dX11_layAhead_50 ?_
    refine tr_iload_n hC dX11_layAhead_51 rfl rfl ?_
    refine tr_iadd hC dX11_layAhead_52 ?_
    obtain ⟨g3, h⟩ := h
    refine tr_al (v := mem 191 (Int32.toNatClampNeg ((2 * (mem 194 v1.toNatClampNeg)) + v3))) hC dX11_layAhead_53 sh_191 g3 rfl ?_
    refine tr_iconst (v := 1) hC dX11_layAhead_54 (by decide) ?_
    refine tr_isub hC dX11_layAhead_55 ?_
    refine tr_istore (loc2 := [some (.inr 187), some (.inl v1), some (.inl v2), some (.inl v3), some (.inl ((mem 191 (Int32.toNatClampNeg ((2 * (mem 194 v1.toNatClampNeg)) + v3))) - 1)), none, none]) hC dX11_layAhead_56 (by decide) rfl ?_
    exact h
set_option maxRecDepth 100000 in
theorem K_X11_layAhead_58 {κ : TCx} {post0 : Option TV → TMem → Prop} (hC : TC κ RX11 cX11_layAhead 7 4 99) (hT : TR κ none post0) (mem : TMem) (v1 : Int32) (v2 : Int32) (v3 : Int32) (v4 : Int32) (h : (v4 < 0 → (WT κ 24 [some (.inr 187), some (.inl v1), some (.inl v2), some (.inl (v3 + 1)), none, none, none] [] mem)) ∧ (¬ (v4 < 0) → (WT κ 72 [some (.inr 187), some (.inl v1), some (.inl v2), some (.inl v3), some (.inl v4), some (.inl 1000000), some (.inl (v2 + 1))] [] mem))) : WT κ 58 [some (.inr 187), some (.inl v1), some (.inl v2), some (.inl v3), some (.inl v4), none, none] [] mem := by
  refine tr_iload hC dX11_layAhead_58 rfl ?_
  refine tr_if_lt hC dX11_layAhead_60 (tgt := 126) rfl (fun c60 => ?_) (fun c60 => ?_)
  · replace h := h.1 c60
    refine tr_iinc (v := v3 + 1) (loc2 := [some (.inr 187), some (.inl v1), some (.inl v2), some (.inl (v3 + 1)), some (.inl v4), none, none]) hC dX11_layAhead_126 rfl rfl (by decide) rfl ?_
    refine tr_goto hC dX11_layAhead_129 (tgt := 24) rfl ?_
    exact tr_weak (tl_s (tl_s (tl_s (tl_s (tl_n (tl_n (tl_n (tl_nil _)))))))) h
  · replace h := h.2 c60
    refine tr_ldc hC dX11_layAhead_63 lc_X11_119 ?_
    refine tr_istore (loc2 := [some (.inr 187), some (.inl v1), some (.inl v2), some (.inl v3), some (.inl v4), some (.inl 1000000), none]) hC dX11_layAhead_65 (by decide) rfl ?_
    refine tr_iload_n hC dX11_layAhead_67 rfl rfl ?_
    refine tr_iconst (v := 1) hC dX11_layAhead_68 (by decide) ?_
    refine tr_iadd hC dX11_layAhead_69 ?_
    refine tr_istore (loc2 := [some (.inr 187), some (.inl v1), some (.inl v2), some (.inl v3), some (.inl v4), some (.inl 1000000), some (.inl (v2 + 1))]) hC dX11_layAhead_70 (by decide) rfl ?_
    exact h
set_option maxRecDepth 100000 in
theorem K_X11_layAhead_72 {κ : TCx} {post0 : Option TV → TMem → Prop} (hC : TC κ RX11 cX11_layAhead 7 4 99) (hT : TR κ none post0) (mem : TMem) (v1 : Int32) (v2 : Int32) (v3 : Int32) (v4 : Int32) (v5 : Int32) (v6 : Int32) (h : ((mem 187 0) < v6 → ((vp_in ((((((2 * v1) + v3) * 4) + v4) * 41) + v2) 3936) ∧ (WT κ 58 [some (.inr 187), some (.inl v1), some (.inl v2), some (.inl v3), some (.inl (v4 + (-1))), none, none] [] (mset mem 208 (Int32.toNatClampNeg ((((((2 * v1) + v3) * 4) + v4) * 41) + v2)) v5)))) ∧ (¬ ((mem 187 0) < v6) → (∃ post : Int32 → TMem → Prop, TMi κ.1.2.1 i_X11_soundTo 3 70 [.inr 187, .inl v1, .inl v3, .inl v4, .inl v2, .inl v6] mem post ∧ ∀ (x91 : Int32) (m91 : TMem), post x91 m91 → (WT κ 72 [some (.inr 187), some (.inl v1), some (.inl v2), some (.inl v3), some (.inl v4), some (.inl (F_X11_lesser v5 x91)), some (.inl (v6 + 1))] [] m91)))) : WT κ 72 [some (.inr 187), some (.inl v1), some (.inl v2), some (.inl v3), some (.inl v4), some (.inl v5), some (.inl v6)] [] mem := by
  refine tr_iload hC dX11_layAhead_72 rfl ?_
  refine tr_aload_n hC dX11_layAhead_74 rfl rfl ?_
  refine tr_gi (v := mem 187 0) hC dX11_layAhead_75 gf_X11_93 sh_187 rfl rfl ?_
  refine tr_icmp_gt hC dX11_layAhead_78 (tgt := 105) rfl (fun c78 => ?_) (fun c78 => ?_)
  · replace h := h.1 c78
    refine tr_aload_n hC dX11_layAhead_105 rfl rfl ?_
    refine tr_getr hC dX11_layAhead_106 gf_X11_83 sh_187 rfl ?_
    refine tr_iload_n hC dX11_layAhead_109 rfl rfl ?_
    refine tr_iload_n hC dX11_layAhead_110 rfl rfl ?_
    refine tr_iload hC dX11_layAhead_111 rfl ?_
    refine tr_iload_n hC dX11_layAhead_113 rfl rfl ?_
    refine tr_xSi (As := [.inl v1, .inl v3, .inl v4, .inl v2]) (fr2 := 0) (lo2 := 0) hC dX11_layAhead_114 mc_X11_166 mst_X11_aheadAt ⟨Nat.le_of_ble_eq_true rfl, Nat.le_of_ble_eq_true rfl, Nat.le_of_ble_eq_true rfl⟩ rfl (C_X11_aheadAt _ mem v1 v3 v4 v2) ?_
    refine tr_iload hC dX11_layAhead_117 rfl ?_
    obtain ⟨g1, h⟩ := h
    refine tr_iast hC dX11_layAhead_119 sh_208 g1 ?_
    refine tr_iinc (v := v4 + (-1)) (loc2 := [some (.inr 187), some (.inl v1), some (.inl v2), some (.inl v3), some (.inl (v4 + (-1))), some (.inl v5), some (.inl v6)]) hC dX11_layAhead_120 rfl rfl (by decide) rfl ?_
    refine tr_goto hC dX11_layAhead_123 (tgt := 58) rfl ?_
    exact tr_weak (tl_s (tl_s (tl_s (tl_s (tl_s (tl_n (tl_n (tl_nil _)))))))) h
  · replace h := h.2 c78
    refine tr_iload hC dX11_layAhead_81 rfl ?_
    refine tr_aload_n hC dX11_layAhead_83 rfl rfl ?_
    refine tr_iload_n hC dX11_layAhead_84 rfl rfl ?_
    refine tr_iload_n hC dX11_layAhead_85 rfl rfl ?_
    refine tr_iload hC dX11_layAhead_86 rfl ?_
    refine tr_iload_n hC dX11_layAhead_88 rfl rfl ?_
    refine tr_iload hC dX11_layAhead_89 rfl ?_
    obtain ⟨post91, hM91, h⟩ := h
    refine tr_cVi (As := [.inl v1, .inl v3, .inl v4, .inl v2, .inl v6]) (fr2 := 3) (lo2 := 70) hC dX11_layAhead_91 mc_X11_172 mv_X11_soundTo sh_187 rfl ⟨Nat.le_of_ble_eq_true rfl, Nat.le_of_ble_eq_true rfl, Nat.le_of_ble_eq_true rfl⟩ rfl hM91 (fun x91 m91 hp91 => ?_)
    replace h := h x91 m91 hp91
    refine tr_xSi (As := [.inl v5, .inl x91]) (fr2 := 0) (lo2 := 0) hC dX11_layAhead_94 mc_X11_120 mst_X11_lesser ⟨Nat.le_of_ble_eq_true rfl, Nat.le_of_ble_eq_true rfl, Nat.le_of_ble_eq_true rfl⟩ rfl (C_X11_lesser _ m91 v5 x91) ?_
    refine tr_istore (loc2 := [some (.inr 187), some (.inl v1), some (.inl v2), some (.inl v3), some (.inl v4), some (.inl (F_X11_lesser v5 x91)), some (.inl v6)]) hC dX11_layAhead_97 (by decide) rfl ?_
    refine tr_iinc (v := v6 + 1) (loc2 := [some (.inr 187), some (.inl v1), some (.inl v2), some (.inl v3), some (.inl v4), some (.inl (F_X11_lesser v5 x91)), some (.inl (v6 + 1))]) hC dX11_layAhead_99 rfl rfl (by decide) rfl ?_
    refine tr_goto hC dX11_layAhead_102 (tgt := 72) rfl ?_
    exact h
set_option maxRecDepth 100000 in
theorem K_X11_lay_0 {κ : TCx} {post0 : Option TV → TMem → Prop} (hC : TC κ RX11 cX11_lay 9 5 125) (hT : TR κ (some .int) post0) (mem : TMem) (h : ((mem 187 9) = 0 → (post0 (some (.inl (-3))) (mset mem 187 11 0))) ∧ (¬ ((mem 187 9) = 0) → (((mem 187 0) = 0 → (post0 (some (.inl (-3))) (mset mem 187 11 0))) ∧ (¬ ((mem 187 0) = 0) → ((G_X11_behind (-1) (mem 194 0)) ∧ ((0 ≤ (F_X11_behind (mset mem 187 11 0) (-1) (mem 194 0)) → (∃ post : TMem → Prop, TMv κ.1.2.1 i_X11_layAhead 4 99 [.inr 187] (mset mem 187 11 0) post ∧ ∀ (m37 : TMem), post m37 → (∃ post : Int32 → TMem → Prop, TMi κ.1.2.1 i_X11_bestWay 1 23 [.inr 187, .inl 0, .inl 0] m37 post ∧ ∀ (x43 : Int32) (m43 : TMem), post x43 m43 → ((x43 = 1000000 → (post0 (some (.inl (-3))) m43)) ∧ (¬ (x43 = 1000000) → (WT κ 60 [some (.inr 187), some (.inl x43), some (.inl 0), some (.inl 0), none, none, none, none, none] [] m43)))))) ∧ (¬ (0 ≤ (F_X11_behind (mset mem 187 11 0) (-1) (mem 194 0))) → (post0 (some (.inl (-3))) (mset mem 187 11 0))))))))) : WT κ 0 [some (.inr 187), none, none, none, none, none, none, none, none] [] mem := by
  refine tr_aload_n hC dX11_lay_0 rfl rfl ?_
  refine tr_iconst (v := 0) hC dX11_lay_1 (by decide) ?_
  refine tr_puti hC dX11_lay_2 gp_X11_96 sh_187 rfl (by decide) (by decide) ?_
  refine tr_aload_n hC dX11_lay_5 rfl rfl ?_
  refine tr_gi (v := mem 187 9) hC dX11_lay_6 gf_X11_160 sh_187 rfl (ms_sl (by decide)) ?_
  refine tr_if_eq hC dX11_lay_9 (tgt := 33) rfl (fun c9 => ?_) (fun c9 => ?_)
  · replace h := h.1 c9
    refine tr_bipush (v := (-3)) hC dX11_lay_33 (by decide) ?_
    exact tr_iret hC hT dX11_lay_35 h
  · replace h := h.2 c9
    refine tr_aload_n hC dX11_lay_12 rfl rfl ?_
    refine tr_gi (v := mem 187 0) hC dX11_lay_13 gf_X11_93 sh_187 rfl (ms_sl (by decide)) ?_
    refine tr_if_eq hC dX11_lay_16 (tgt := 33) rfl (fun c16 => ?_) (fun c16 => ?_)
    · replace h := h.1 c16
      refine tr_bipush (v := (-3)) hC dX11_lay_33 (by decide) ?_
      exact tr_iret hC hT dX11_lay_35 h
    · replace h := h.2 c16
      refine tr_aload_n hC dX11_lay_19 rfl rfl ?_
      refine tr_iconst (v := (-1)) hC dX11_lay_20 (by decide) ?_
      refine tr_aload_n hC dX11_lay_21 rfl rfl ?_
      refine tr_getr hC dX11_lay_22 gf_X11_32 sh_187 rfl ?_
      refine tr_iconst (v := 0) hC dX11_lay_25 (by decide) ?_
      refine tr_al (v := mem 194 0) hC dX11_lay_26 sh_194 (by unfold vp_in; decide) (ms_ne (by decide)) ?_
      obtain ⟨g1, h⟩ := h
      refine tr_xVi (As := [.inl (-1), .inl (mem 194 0)]) (fr2 := 0) (lo2 := 0) hC dX11_lay_27 mc_X11_115 mv_X11_behind sh_187 rfl ⟨Nat.le_of_ble_eq_true rfl, Nat.le_of_ble_eq_true rfl, Nat.le_of_ble_eq_true rfl⟩ rfl (C_X11_behind _ (mset mem 187 11 0) (-1) (mem 194 0) g1) ?_
      refine tr_if_ge hC dX11_lay_30 (tgt := 36) rfl (fun c30 => ?_) (fun c30 => ?_)
      · replace h := h.1 c30
        refine tr_aload_n hC dX11_lay_36 rfl rfl ?_
        obtain ⟨post37, hM37, h⟩ := h
        refine tr_cVv (As := []) (fr2 := 4) (lo2 := 99) hC dX11_lay_37 mc_X11_176 mv_X11_layAhead sh_187 rfl ⟨Nat.le_of_ble_eq_true rfl, Nat.le_of_ble_eq_true rfl, Nat.le_of_ble_eq_true rfl⟩ rfl hM37 (fun m37 hp37 => ?_)
        replace h := h m37 hp37
        refine tr_aload_n hC dX11_lay_40 rfl rfl ?_
        refine tr_iconst (v := 0) hC dX11_lay_41 (by decide) ?_
        refine tr_iconst (v := 0) hC dX11_lay_42 (by decide) ?_
        obtain ⟨post43, hM43, h⟩ := h
        refine tr_cVi (As := [.inl 0, .inl 0]) (fr2 := 1) (lo2 := 23) hC dX11_lay_43 mc_X11_163 mv_X11_bestWay sh_187 rfl ⟨Nat.le_of_ble_eq_true rfl, Nat.le_of_ble_eq_true rfl, Nat.le_of_ble_eq_true rfl⟩ rfl hM43 (fun x43 m43 hp43 => ?_)
        replace h := h x43 m43 hp43
        refine tr_istore_n (loc2 := [some (.inr 187), some (.inl x43), none, none, none, none, none, none, none]) hC dX11_lay_46 rfl (by decide) rfl ?_
        refine tr_iload_n hC dX11_lay_47 rfl rfl ?_
        refine tr_ldc hC dX11_lay_48 lc_X11_119 ?_
        refine tr_icmp_ne hC dX11_lay_50 (tgt := 56) rfl (fun c50 => ?_) (fun c50 => ?_)
        · replace h := h.2 c50
          refine tr_iconst (v := 0) hC dX11_lay_56 (by decide) ?_
          refine tr_istore_n (loc2 := [some (.inr 187), some (.inl x43), some (.inl 0), none, none, none, none, none, none]) hC dX11_lay_57 rfl (by decide) rfl ?_
          refine tr_iconst (v := 0) hC dX11_lay_58 (by decide) ?_
          refine tr_istore_n (loc2 := [some (.inr 187), some (.inl x43), some (.inl 0), some (.inl 0), none, none, none, none, none]) hC dX11_lay_59 rfl (by decide) rfl ?_
          exact h
        · replace h := h.1 c50
          refine tr_bipush (v := (-3)) hC dX11_lay_53 (by decide) ?_
          exact tr_iret hC hT dX11_lay_55 h
      · replace h := h.2 c30
        refine tr_bipush (v := (-3)) hC dX11_lay_33 (by decide) ?_
        exact tr_iret hC hT dX11_lay_35 h
set_option maxRecDepth 100000 in
theorem K_X11_lay_60 {κ : TCx} {post0 : Option TV → TMem → Prop} (hC : TC κ RX11 cX11_lay 9 5 125) (hT : TR κ (some .int) post0) (mem : TMem) (v1 : Int32) (v2 : Int32) (v3 : Int32) (h : ((mem 187 9) ≤ v3 → ((G_X11_behind (-1) (mem 194 0)) ∧ (post0 (some (.inl (v1 + (F_X11_behind (mset mem 187 11 1) (-1) (mem 194 0))))) (mset mem 187 11 1)))) ∧ (¬ ((mem 187 9) ≤ v3) → (WT κ 71 [some (.inr 187), some (.inl v1), some (.inl v2), some (.inl v3), some (.inl 0), none, none, none, none] [] mem))) : WT κ 60 [some (.inr 187), some (.inl v1), some (.inl v2), some (.inl v3), none, none, none, none, none] [] mem := by
  refine tr_iload_n hC dX11_lay_60 rfl rfl ?_
  refine tr_aload_n hC dX11_lay_61 rfl rfl ?_
  refine tr_gi (v := mem 187 9) hC dX11_lay_62 gf_X11_160 sh_187 rfl rfl ?_
  refine tr_icmp_ge hC dX11_lay_65 (tgt := 234) rfl (fun c65 => ?_) (fun c65 => ?_)
  · replace h := h.1 c65
    refine tr_aload_n hC dX11_lay_234 rfl rfl ?_
    refine tr_iconst (v := 1) hC dX11_lay_235 (by decide) ?_
    refine tr_puti hC dX11_lay_236 gp_X11_96 sh_187 rfl (by decide) (by decide) ?_
    refine tr_iload_n hC dX11_lay_239 rfl rfl ?_
    refine tr_aload_n hC dX11_lay_240 rfl rfl ?_
    refine tr_iconst (v := (-1)) hC dX11_lay_241 (by decide) ?_
    refine tr_aload_n hC dX11_lay_242 rfl rfl ?_
    refine tr_getr hC dX11_lay_243 gf_X11_32 sh_187 rfl ?_
    refine tr_iconst (v := 0) hC dX11_lay_246 (by decide) ?_
    refine tr_al (v := mem 194 0) hC dX11_lay_247 sh_194 (by unfold vp_in; decide) (ms_ne (by decide)) ?_
    obtain ⟨g1, h⟩ := h
    refine tr_xVi (As := [.inl (-1), .inl (mem 194 0)]) (fr2 := 0) (lo2 := 0) hC dX11_lay_248 mc_X11_115 mv_X11_behind sh_187 rfl ⟨Nat.le_of_ble_eq_true rfl, Nat.le_of_ble_eq_true rfl, Nat.le_of_ble_eq_true rfl⟩ rfl (C_X11_behind _ (mset mem 187 11 1) (-1) (mem 194 0) g1) ?_
    refine tr_iadd hC dX11_lay_251 ?_
    exact tr_iret hC hT dX11_lay_252 h
  · replace h := h.2 c65
    refine tr_iconst (v := 0) hC dX11_lay_68 (by decide) ?_
    refine tr_istore (loc2 := [some (.inr 187), some (.inl v1), some (.inl v2), some (.inl v3), some (.inl 0), none, none, none, none]) hC dX11_lay_69 (by decide) rfl ?_
    exact h
set_option maxRecDepth 100000 in
theorem K_X11_lay_71 {κ : TCx} {post0 : Option TV → TMem → Prop} (hC : TC κ RX11 cX11_lay 9 5 125) (hT : TR κ (some .int) post0) (mem : TMem) (v1 : Int32) (v2 : Int32) (v3 : Int32) (v4 : Int32) (h : (vp_in ((((((2 * v3) + v4) * 4) + 0) * 41) + v2) 3936) ∧ (∃ post : Int32 → TMem → Prop, TMi κ.1.2.1 i_X11_bestWay 1 23 [.inr 187, .inl v3, .inl v2] mem post ∧ ∀ (x87 : Int32) (m87 : TMem), post x87 m87 → (((mem 208 (Int32.toNatClampNeg ((((((2 * v3) + v4) * 4) + 0) * 41) + v2))) = x87 → (vp_in v3 12 ∧ (WT κ 115 [some (.inr 187), some (.inl v1), some (.inl v2), some (.inl v3), some (.inl v4), some (.inl ((2 * (m87 194 v3.toNatClampNeg)) + v4)), some (.inl 0), none, none] [] m87))) ∧ (¬ ((mem 208 (Int32.toNatClampNeg ((((((2 * v3) + v4) * 4) + 0) * 41) + v2))) = x87) → (WT κ 71 [some (.inr 187), some (.inl v1), some (.inl v2), some (.inl v3), some (.inl (v4 + 1)), none, none, none, none] [] m87))))) : WT κ 71 [some (.inr 187), some (.inl v1), some (.inl v2), some (.inl v3), some (.inl v4), none, none, none, none] [] mem := by
  refine tr_aload_n hC dX11_lay_71 rfl rfl ?_
  refine tr_getr hC dX11_lay_72 gf_X11_83 sh_187 rfl ?_
  refine tr_iload_n hC dX11_lay_75 rfl rfl ?_
  refine tr_iload hC dX11_lay_76 rfl ?_
  refine tr_iconst (v := 0) hC dX11_lay_78 (by decide) ?_
  refine tr_iload_n hC dX11_lay_79 rfl rfl ?_
  refine tr_xSi (As := [.inl v3, .inl v4, .inl 0, .inl v2]) (fr2 := 0) (lo2 := 0) hC dX11_lay_80 mc_X11_166 mst_X11_aheadAt ⟨Nat.le_of_ble_eq_true rfl, Nat.le_of_ble_eq_true rfl, Nat.le_of_ble_eq_true rfl⟩ rfl (C_X11_aheadAt _ mem v3 v4 0 v2) ?_
  obtain ⟨g1, h⟩ := h
  refine tr_al (v := mem 208 (Int32.toNatClampNeg ((((((2 * v3) + v4) * 4) + 0) * 41) + v2))) hC dX11_lay_83 sh_208 g1 rfl ?_
  refine tr_aload_n hC dX11_lay_84 rfl rfl ?_
  refine tr_iload_n hC dX11_lay_85 rfl rfl ?_
  refine tr_iload_n hC dX11_lay_86 rfl rfl ?_
  obtain ⟨post87, hM87, h⟩ := h
  refine tr_cVi (As := [.inl v3, .inl v2]) (fr2 := 1) (lo2 := 23) hC dX11_lay_87 mc_X11_163 mv_X11_bestWay sh_187 rfl ⟨Nat.le_of_ble_eq_true rfl, Nat.le_of_ble_eq_true rfl, Nat.le_of_ble_eq_true rfl⟩ rfl hM87 (fun x87 m87 hp87 => ?_)
  replace h := h x87 m87 hp87
  refine tr_icmp_eq hC dX11_lay_90 (tgt := 99) rfl (fun c90 => ?_) (fun c90 => ?_)
  · replace h := h.1 c90
    refine tr_iconst (v := 2) hC dX11_lay_99 (by decide) ?_
    refine tr_aload_n hC dX11_lay_100 rfl rfl ?_
    refine tr_getr hC dX11_lay_101 gf_X11_32 sh_187 rfl ?_
    refine tr_iload_n hC dX11_lay_104 rfl rfl ?_
    obtain ⟨g2, h⟩ := h
    refine tr_al (v := m87 194 v3.toNatClampNeg) hC dX11_lay_105 sh_194 g2 rfl ?_
    refine tr_imul hC dX11_lay_106 ?_
    refine tr_iload hC dX11_lay_107 rfl ?_
    refine tr_iadd hC dX11_lay_109 ?_
    refine tr_istore (loc2 := [some (.inr 187), some (.inl v1), some (.inl v2), some (.inl v3), some (.inl v4), some (.inl ((2 * (m87 194 v3.toNatClampNeg)) + v4)), none, none, none]) hC dX11_lay_110 (by decide) rfl ?_
    refine tr_iconst (v := 0) hC dX11_lay_112 (by decide) ?_
    refine tr_istore (loc2 := [some (.inr 187), some (.inl v1), some (.inl v2), some (.inl v3), some (.inl v4), some (.inl ((2 * (m87 194 v3.toNatClampNeg)) + v4)), some (.inl 0), none, none]) hC dX11_lay_113 (by decide) rfl ?_
    exact h
  · replace h := h.2 c90
    refine tr_iinc (v := v4 + 1) (loc2 := [some (.inr 187), some (.inl v1), some (.inl v2), some (.inl v3), some (.inl (v4 + 1)), none, none, none, none]) hC dX11_lay_93 rfl rfl (by decide) rfl ?_
    refine tr_goto hC dX11_lay_96 (tgt := 71) rfl ?_
    exact h
set_option maxRecDepth 100000 in
theorem K_X11_lay_115 {κ : TCx} {post0 : Option TV → TMem → Prop} (hC : TC κ RX11 cX11_lay 9 5 125) (hT : TR κ (some .int) post0) (mem : TMem) (v1 : Int32) (v2 : Int32) (v3 : Int32) (v4 : Int32) (v5 : Int32) (v6 : Int32) (h : vp_in v5 16 ∧ (((mem 191 v5.toNatClampNeg) ≤ v6 → (WT κ 60 [some (.inr 187), some (.inl v1), some (.inl v2), some (.inl (v3 + 1)), none, none, none, none, none] [] mem)) ∧ (¬ ((mem 191 v5.toNatClampNeg) ≤ v6) → (WT κ 132 [some (.inr 187), some (.inl v1), some (.inl v2), some (.inl v3), some (.inl v4), some (.inl v5), some (.inl v6), some (.inl (v2 + 1)), none] [] mem)))) : WT κ 115 [some (.inr 187), some (.inl v1), some (.inl v2), some (.inl v3), some (.inl v4), some (.inl v5), some (.inl v6), none, none] [] mem := by
  refine tr_iload hC dX11_lay_115 rfl ?_
  refine tr_aload_n hC dX11_lay_117 rfl rfl ?_
  refine tr_getr hC dX11_lay_118 gf_X11_23 sh_187 rfl ?_
  refine tr_iload hC dX11_lay_121 rfl ?_
  obtain ⟨g1, h⟩ := h
  refine tr_al (v := mem 191 v5.toNatClampNeg) hC dX11_lay_123 sh_191 g1 rfl ?_
  refine tr_icmp_ge hC dX11_lay_124 (tgt := 228) rfl (fun c124 => ?_) (fun c124 => ?_)
  · replace h := h.1 c124
    refine tr_iinc (v := v3 + 1) (loc2 := [some (.inr 187), some (.inl v1), some (.inl v2), some (.inl (v3 + 1)), some (.inl v4), some (.inl v5), some (.inl v6), none, none]) hC dX11_lay_228 rfl rfl (by decide) rfl ?_
    refine tr_goto hC dX11_lay_231 (tgt := 60) rfl ?_
    exact tr_weak (tl_s (tl_s (tl_s (tl_s (tl_n (tl_n (tl_n (tl_n (tl_n (tl_nil _)))))))))) h
  · replace h := h.2 c124
    refine tr_iload_n hC dX11_lay_127 rfl rfl ?_
    refine tr_iconst (v := 1) hC dX11_lay_128 (by decide) ?_
    refine tr_iadd hC dX11_lay_129 ?_
    refine tr_istore (loc2 := [some (.inr 187), some (.inl v1), some (.inl v2), some (.inl v3), some (.inl v4), some (.inl v5), some (.inl v6), some (.inl (v2 + 1)), none]) hC dX11_lay_130 (by decide) rfl ?_
    exact h
set_option maxRecDepth 100000 in
theorem K_X11_lay_132 {κ : TCx} {post0 : Option TV → TMem → Prop} (hC : TC κ RX11 cX11_lay 9 5 125) (hT : TR κ (some .int) post0) (mem : TMem) (v1 : Int32) (v2 : Int32) (v3 : Int32) (v4 : Int32) (v5 : Int32) (v6 : Int32) (v7 : Int32) (h : ∃ post : Int32 → TMem → Prop, TMi κ.1.2.1 i_X11_soundTo 3 70 [.inr 187, .inl v3, .inl v4, .inl v6, .inl v2, .inl v7] mem post ∧ ∀ (x141 : Int32) (m141 : TMem), post x141 m141 → ((vp_in ((((((2 * v3) + v4) * 4) + v6) * 41) + v2) 3936) ∧ ((x141 = (m141 208 (Int32.toNatClampNeg ((((((2 * v3) + v4) * 4) + v6) * 41) + v2))) → (WT κ 170 [some (.inr 187), some (.inl v1), none, some (.inl v3), some (.inl v4), some (.inl v5), some (.inl v6), some (.inl v7), some (.inl v2)] [] m141)) ∧ (¬ (x141 = (m141 208 (Int32.toNatClampNeg ((((((2 * v3) + v4) * 4) + v6) * 41) + v2)))) → (WT κ 132 [some (.inr 187), some (.inl v1), some (.inl v2), some (.inl v3), some (.inl v4), some (.inl v5), some (.inl v6), some (.inl (v7 + 1)), none] [] m141))))) : WT κ 132 [some (.inr 187), some (.inl v1), some (.inl v2), some (.inl v3), some (.inl v4), some (.inl v5), some (.inl v6), some (.inl v7), none] [] mem := by
  refine tr_aload_n hC dX11_lay_132 rfl rfl ?_
  refine tr_iload_n hC dX11_lay_133 rfl rfl ?_
  refine tr_iload hC dX11_lay_134 rfl ?_
  refine tr_iload hC dX11_lay_136 rfl ?_
  refine tr_iload_n hC dX11_lay_138 rfl rfl ?_
  refine tr_iload hC dX11_lay_139 rfl ?_
  obtain ⟨post141, hM141, h⟩ := h
  refine tr_cVi (As := [.inl v3, .inl v4, .inl v6, .inl v2, .inl v7]) (fr2 := 3) (lo2 := 70) hC dX11_lay_141 mc_X11_172 mv_X11_soundTo sh_187 rfl ⟨Nat.le_of_ble_eq_true rfl, Nat.le_of_ble_eq_true rfl, Nat.le_of_ble_eq_true rfl⟩ rfl hM141 (fun x141 m141 hp141 => ?_)
  replace h := h x141 m141 hp141
  refine tr_aload_n hC dX11_lay_144 rfl rfl ?_
  refine tr_getr hC dX11_lay_145 gf_X11_83 sh_187 rfl ?_
  refine tr_iload_n hC dX11_lay_148 rfl rfl ?_
  refine tr_iload hC dX11_lay_149 rfl ?_
  refine tr_iload hC dX11_lay_151 rfl ?_
  refine tr_iload_n hC dX11_lay_153 rfl rfl ?_
  refine tr_xSi (As := [.inl v3, .inl v4, .inl v6, .inl v2]) (fr2 := 0) (lo2 := 0) hC dX11_lay_154 mc_X11_166 mst_X11_aheadAt ⟨Nat.le_of_ble_eq_true rfl, Nat.le_of_ble_eq_true rfl, Nat.le_of_ble_eq_true rfl⟩ rfl (C_X11_aheadAt _ m141 v3 v4 v6 v2) ?_
  obtain ⟨g1, h⟩ := h
  refine tr_al (v := m141 208 (Int32.toNatClampNeg ((((((2 * v3) + v4) * 4) + v6) * 41) + v2))) hC dX11_lay_157 sh_208 g1 rfl ?_
  refine tr_icmp_eq hC dX11_lay_158 (tgt := 167) rfl (fun c158 => ?_) (fun c158 => ?_)
  · replace h := h.1 c158
    refine tr_iload_n hC dX11_lay_167 rfl rfl ?_
    refine tr_istore (loc2 := [some (.inr 187), some (.inl v1), some (.inl v2), some (.inl v3), some (.inl v4), some (.inl v5), some (.inl v6), some (.inl v7), some (.inl v2)]) hC dX11_lay_168 (by decide) rfl ?_
    exact tr_weak (tl_s (tl_s (tl_n (tl_s (tl_s (tl_s (tl_s (tl_s (tl_s (tl_nil _)))))))))) h
  · replace h := h.2 c158
    refine tr_iinc (v := v7 + 1) (loc2 := [some (.inr 187), some (.inl v1), some (.inl v2), some (.inl v3), some (.inl v4), some (.inl v5), some (.inl v6), some (.inl (v7 + 1)), none]) hC dX11_lay_161 rfl rfl (by decide) rfl ?_
    refine tr_goto hC dX11_lay_164 (tgt := 132) rfl ?_
    exact h
set_option maxRecDepth 100000 in
theorem K_X11_lay_170 {κ : TCx} {post0 : Option TV → TMem → Prop} (hC : TC κ RX11 cX11_lay 9 5 125) (hT : TR κ (some .int) post0) (mem : TMem) (v1 : Int32) (v3 : Int32) (v4 : Int32) (v5 : Int32) (v6 : Int32) (v7 : Int32) (v8 : Int32) (h : (v7 ≤ v8 → (WT κ 115 [some (.inr 187), some (.inl v1), some (.inl v7), some (.inl v3), some (.inl v4), some (.inl v5), some (.inl (v6 + 1)), none, none] [] mem)) ∧ (¬ (v7 ≤ v8) → ((vp_in ((4 * v5) + v6) 64) ∧ (vp_in v8 40 ∧ (WT κ 170 [some (.inr 187), some (.inl v1), none, some (.inl v3), some (.inl v4), some (.inl v5), some (.inl v6), some (.inl v7), some (.inl (v8 + 1))] [] (mset (mset (mset mem 195 v8.toNatClampNeg (mem 192 (Int32.toNatClampNeg ((4 * v5) + v6)))) 196 v8.toNatClampNeg v3) 197 v8.toNatClampNeg v4)))))) : WT κ 170 [some (.inr 187), some (.inl v1), none, some (.inl v3), some (.inl v4), some (.inl v5), some (.inl v6), some (.inl v7), some (.inl v8)] [] mem := by
  refine tr_iload hC dX11_lay_170 rfl ?_
  refine tr_iload hC dX11_lay_172 rfl ?_
  refine tr_icmp_ge hC dX11_lay_174 (tgt := 219) rfl (fun c174 => ?_) (fun c174 => ?_)
  · replace h := h.1 c174
    refine tr_iload hC dX11_lay_219 rfl ?_
    refine tr_istore_n (loc2 := [some (.inr 187), some (.inl v1), some (.inl v7), some (.inl v3), some (.inl v4), some (.inl v5), some (.inl v6), some (.inl v7), some (.inl v8)]) hC dX11_lay_221 rfl (by decide) rfl ?_
    refine tr_iinc (v := v6 + 1) (loc2 := [some (.inr 187), some (.inl v1), some (.inl v7), some (.inl v3), some (.inl v4), some (.inl v5), some (.inl (v6 + 1)), some (.inl v7), some (.inl v8)]) hC dX11_lay_222 rfl rfl (by decide) rfl ?_
    refine tr_goto hC dX11_lay_225 (tgt := 115) rfl ?_
    exact tr_weak (tl_s (tl_s (tl_s (tl_s (tl_s (tl_s (tl_s (tl_n (tl_n (tl_nil _)))))))))) h
  · replace h := h.2 c174
    refine tr_aload_n hC dX11_lay_177 rfl rfl ?_
    refine tr_getr hC dX11_lay_178 gf_X11_35 sh_187 rfl ?_
    refine tr_iload hC dX11_lay_181 rfl ?_
    refine tr_aload_n hC dX11_lay_183 rfl rfl ?_
    refine tr_getr hC dX11_lay_184 gf_X11_26 sh_187 rfl ?_
    refine tr_iconst (v := 4) hC dX11_lay_187 (by decide) ?_
    refine tr_iload hC dX11_lay_188 rfl ?_
    refine tr_imul hC dX11_lay_190 ?_
    refine tr_iload hC dX11_lay_191 rfl ?_
    refine tr_iadd hC dX11_lay_193 ?_
    obtain ⟨g1, h⟩ := h
    refine tr_al (v := mem 192 (Int32.toNatClampNeg ((4 * v5) + v6))) hC dX11_lay_194 sh_192 g1 rfl ?_
    obtain ⟨g2, h⟩ := h
    refine tr_iast hC dX11_lay_195 sh_195 g2 ?_
    refine tr_aload_n hC dX11_lay_196 rfl rfl ?_
    refine tr_getr hC dX11_lay_197 gf_X11_38 sh_187 rfl ?_
    refine tr_iload hC dX11_lay_200 rfl ?_
    refine tr_iload_n hC dX11_lay_202 rfl rfl ?_
    refine tr_iast hC dX11_lay_203 sh_196 g2 ?_
    refine tr_aload_n hC dX11_lay_204 rfl rfl ?_
    refine tr_getr hC dX11_lay_205 gf_X11_41 sh_187 rfl ?_
    refine tr_iload hC dX11_lay_208 rfl ?_
    refine tr_iload hC dX11_lay_210 rfl ?_
    refine tr_iast hC dX11_lay_212 sh_197 g2 ?_
    refine tr_iinc (v := v8 + 1) (loc2 := [some (.inr 187), some (.inl v1), none, some (.inl v3), some (.inl v4), some (.inl v5), some (.inl v6), some (.inl v7), some (.inl (v8 + 1))]) hC dX11_lay_213 rfl rfl (by decide) rfl ?_
    refine tr_goto hC dX11_lay_216 (tgt := 170) rfl ?_
    exact h
set_option maxRecDepth 100000 in
theorem K_X11_edits_0 {κ : TCx} {post0 : Option TV → TMem → Prop} (hC : TC κ RX11 cX11_edits 4 6 140) (hT : TR κ (some .int) post0) (mem : TMem) (h : ∃ post : Int32 → TMem → Prop, TMi κ.1.2.1 i_X11_findRow 5 116 [.inr 187] mem post ∧ ∀ (x1 : Int32) (m1 : TMem), post x1 m1 → ((x1 = 0 → (post0 (some (.inl (-3))) m1)) ∧ (¬ (x1 = 0) → (WT κ 12 [some (.inr 187), some (.inl 0), none, none] [] m1)))) : WT κ 0 [some (.inr 187), none, none, none] [] mem := by
  refine tr_aload_n hC dX11_edits_0 rfl rfl ?_
  obtain ⟨post1, hM1, h⟩ := h
  refine tr_cVi (As := []) (fr2 := 5) (lo2 := 116) hC dX11_edits_1 mc_X11_156 mv_X11_findRow sh_187 rfl ⟨Nat.le_of_ble_eq_true rfl, Nat.le_of_ble_eq_true rfl, Nat.le_of_ble_eq_true rfl⟩ rfl hM1 (fun x1 m1 hp1 => ?_)
  replace h := h x1 m1 hp1
  refine tr_if_ne hC dX11_edits_4 (tgt := 10) rfl (fun c4 => ?_) (fun c4 => ?_)
  · replace h := h.2 c4
    refine tr_iconst (v := 0) hC dX11_edits_10 (by decide) ?_
    refine tr_istore_n (loc2 := [some (.inr 187), some (.inl 0), none, none]) hC dX11_edits_11 rfl (by decide) rfl ?_
    exact h
  · replace h := h.1 c4
    refine tr_bipush (v := (-3)) hC dX11_edits_7 (by decide) ?_
    exact tr_iret hC hT dX11_edits_9 h
set_option maxRecDepth 100000 in
theorem K_X11_edits_12 {κ : TCx} {post0 : Option TV → TMem → Prop} (hC : TC κ RX11 cX11_edits 4 6 140) (hT : TR κ (some .int) post0) (mem : TMem) (v1 : Int32) (h : ((mem 187 9) < v1 → ((vp_in ((41 * (mem 187 9)) + (mem 187 26)) 533) ∧ (post0 (some (.inl (mem 209 (Int32.toNatClampNeg ((41 * (mem 187 9)) + (mem 187 26)))))) mem))) ∧ (¬ ((mem 187 9) < v1) → (WT κ 22 [some (.inr 187), some (.inl v1), some (.inl 0), none] [] mem))) : WT κ 12 [some (.inr 187), some (.inl v1), none, none] [] mem := by
  refine tr_iload_n hC dX11_edits_12 rfl rfl ?_
  refine tr_aload_n hC dX11_edits_13 rfl rfl ?_
  refine tr_gi (v := mem 187 9) hC dX11_edits_14 gf_X11_160 sh_187 rfl rfl ?_
  refine tr_icmp_gt hC dX11_edits_17 (tgt := 158) rfl (fun c17 => ?_) (fun c17 => ?_)
  · replace h := h.1 c17
    refine tr_aload_n hC dX11_edits_158 rfl rfl ?_
    refine tr_getr hC dX11_edits_159 gf_X11_86 sh_187 rfl ?_
    refine tr_bipush (v := 41) hC dX11_edits_162 (by decide) ?_
    refine tr_aload_n hC dX11_edits_164 rfl rfl ?_
    refine tr_gi (v := mem 187 9) hC dX11_edits_165 gf_X11_160 sh_187 rfl rfl ?_
    refine tr_imul hC dX11_edits_168 ?_
    refine tr_aload_n hC dX11_edits_169 rfl rfl ?_
    refine tr_gi (v := mem 187 26) hC dX11_edits_170 gf_X11_150 sh_187 rfl rfl ?_
    refine tr_iadd hC dX11_edits_173 ?_
    obtain ⟨g1, h⟩ := h
    refine tr_al (v := mem 209 (Int32.toNatClampNeg ((41 * (mem 187 9)) + (mem 187 26)))) hC dX11_edits_174 sh_209 g1 rfl ?_
    exact tr_iret hC hT dX11_edits_175 h
  · replace h := h.2 c17
    refine tr_iconst (v := 0) hC dX11_edits_20 (by decide) ?_
    refine tr_istore_n (loc2 := [some (.inr 187), some (.inl v1), some (.inl 0), none]) hC dX11_edits_21 rfl (by decide) rfl ?_
    exact h
set_option maxRecDepth 100000 in
theorem K_X11_edits_22 {κ : TCx} {post0 : Option TV → TMem → Prop} (hC : TC κ RX11 cX11_edits 4 6 140) (hT : TR κ (some .int) post0) (mem : TMem) (v1 : Int32) (v2 : Int32) (h : ((mem 187 26) < v2 → (WT κ 12 [some (.inr 187), some (.inl (v1 + 1)), none, none] [] mem)) ∧ (¬ ((mem 187 26) < v2) → ((v1 = 0 → ((v1 ≤ 0 → ((vp_in ((41 * v1) + v2) 533) ∧ (WT κ 22 [some (.inr 187), some (.inl v1), some (.inl (v2 + 1)), none] [] (mset mem 209 (Int32.toNatClampNeg ((41 * v1) + v2)) v2)))) ∧ (¬ (v1 ≤ 0) → ((v2 ≤ 0 → ((vp_in ((41 * v1) + v2) 533) ∧ (WT κ 22 [some (.inr 187), some (.inl v1), some (.inl (v2 + 1)), none] [] (mset mem 209 (Int32.toNatClampNeg ((41 * v1) + v2)) v2)))) ∧ (¬ (v2 ≤ 0) → ((vp_in ((41 * (v1 - 1)) + v2) 533) ∧ ((vp_in (((41 * v1) + v2) - 1) 533) ∧ ((vp_in (((41 * (v1 - 1)) + v2) - 1) 533) ∧ ((vp_in (v1 - 1) 12) ∧ ((vp_in (v2 - 1) 40) ∧ (((mem 194 (Int32.toNatClampNeg (v1 - 1))) = (mem 205 (Int32.toNatClampNeg (v2 - 1))) → ((vp_in ((41 * v1) + v2) 533) ∧ (WT κ 22 [some (.inr 187), some (.inl v1), some (.inl (v2 + 1)), none] [] (mset mem 209 (Int32.toNatClampNeg ((41 * v1) + v2)) (F_X11_lesser ((F_X11_lesser (mem 209 (Int32.toNatClampNeg ((41 * (v1 - 1)) + v2))) (mem 209 (Int32.toNatClampNeg (((41 * v1) + v2) - 1)))) + 1) ((mem 209 (Int32.toNatClampNeg (((41 * (v1 - 1)) + v2) - 1))) + 0)))))) ∧ (¬ ((mem 194 (Int32.toNatClampNeg (v1 - 1))) = (mem 205 (Int32.toNatClampNeg (v2 - 1)))) → ((vp_in ((41 * v1) + v2) 533) ∧ (WT κ 22 [some (.inr 187), some (.inl v1), some (.inl (v2 + 1)), none] [] (mset mem 209 (Int32.toNatClampNeg ((41 * v1) + v2)) (F_X11_lesser ((F_X11_lesser (mem 209 (Int32.toNatClampNeg ((41 * (v1 - 1)) + v2))) (mem 209 (Int32.toNatClampNeg (((41 * v1) + v2) - 1)))) + 1) ((mem 209 (Int32.toNatClampNeg (((41 * (v1 - 1)) + v2) - 1))) + 1))))))))))))))))) ∧ (¬ (v1 = 0) → ((v2 = 0 → ((v1 ≤ 0 → ((vp_in ((41 * v1) + v2) 533) ∧ (WT κ 22 [some (.inr 187), some (.inl v1), some (.inl (v2 + 1)), none] [] (mset mem 209 (Int32.toNatClampNeg ((41 * v1) + v2)) v1)))) ∧ (¬ (v1 ≤ 0) → ((v2 ≤ 0 → ((vp_in ((41 * v1) + v2) 533) ∧ (WT κ 22 [some (.inr 187), some (.inl v1), some (.inl (v2 + 1)), none] [] (mset mem 209 (Int32.toNatClampNeg ((41 * v1) + v2)) v1)))) ∧ (¬ (v2 ≤ 0) → ((vp_in ((41 * (v1 - 1)) + v2) 533) ∧ ((vp_in (((41 * v1) + v2) - 1) 533) ∧ ((vp_in (((41 * (v1 - 1)) + v2) - 1) 533) ∧ ((vp_in (v1 - 1) 12) ∧ ((vp_in (v2 - 1) 40) ∧ (((mem 194 (Int32.toNatClampNeg (v1 - 1))) = (mem 205 (Int32.toNatClampNeg (v2 - 1))) → ((vp_in ((41 * v1) + v2) 533) ∧ (WT κ 22 [some (.inr 187), some (.inl v1), some (.inl (v2 + 1)), none] [] (mset mem 209 (Int32.toNatClampNeg ((41 * v1) + v2)) (F_X11_lesser ((F_X11_lesser (mem 209 (Int32.toNatClampNeg ((41 * (v1 - 1)) + v2))) (mem 209 (Int32.toNatClampNeg (((41 * v1) + v2) - 1)))) + 1) ((mem 209 (Int32.toNatClampNeg (((41 * (v1 - 1)) + v2) - 1))) + 0)))))) ∧ (¬ ((mem 194 (Int32.toNatClampNeg (v1 - 1))) = (mem 205 (Int32.toNatClampNeg (v2 - 1)))) → ((vp_in ((41 * v1) + v2) 533) ∧ (WT κ 22 [some (.inr 187), some (.inl v1), some (.inl (v2 + 1)), none] [] (mset mem 209 (Int32.toNatClampNeg ((41 * v1) + v2)) (F_X11_lesser ((F_X11_lesser (mem 209 (Int32.toNatClampNeg ((41 * (v1 - 1)) + v2))) (mem 209 (Int32.toNatClampNeg (((41 * v1) + v2) - 1)))) + 1) ((mem 209 (Int32.toNatClampNeg (((41 * (v1 - 1)) + v2) - 1))) + 1))))))))))))))))) ∧ (¬ (v2 = 0) → ((v1 ≤ 0 → ((vp_in ((41 * v1) + v2) 533) ∧ (WT κ 22 [some (.inr 187), some (.inl v1), some (.inl (v2 + 1)), none] [] (mset mem 209 (Int32.toNatClampNeg ((41 * v1) + v2)) 1000000)))) ∧ (¬ (v1 ≤ 0) → ((v2 ≤ 0 → ((vp_in ((41 * v1) + v2) 533) ∧ (WT κ 22 [some (.inr 187), some (.inl v1), some (.inl (v2 + 1)), none] [] (mset mem 209 (Int32.toNatClampNeg ((41 * v1) + v2)) 1000000)))) ∧ (¬ (v2 ≤ 0) → ((vp_in ((41 * (v1 - 1)) + v2) 533) ∧ ((vp_in (((41 * v1) + v2) - 1) 533) ∧ ((vp_in (((41 * (v1 - 1)) + v2) - 1) 533) ∧ ((vp_in (v1 - 1) 12) ∧ ((vp_in (v2 - 1) 40) ∧ (((mem 194 (Int32.toNatClampNeg (v1 - 1))) = (mem 205 (Int32.toNatClampNeg (v2 - 1))) → ((vp_in ((41 * v1) + v2) 533) ∧ (WT κ 22 [some (.inr 187), some (.inl v1), some (.inl (v2 + 1)), none] [] (mset mem 209 (Int32.toNatClampNeg ((41 * v1) + v2)) (F_X11_lesser ((F_X11_lesser (mem 209 (Int32.toNatClampNeg ((41 * (v1 - 1)) + v2))) (mem 209 (Int32.toNatClampNeg (((41 * v1) + v2) - 1)))) + 1) ((mem 209 (Int32.toNatClampNeg (((41 * (v1 - 1)) + v2) - 1))) + 0)))))) ∧ (¬ ((mem 194 (Int32.toNatClampNeg (v1 - 1))) = (mem 205 (Int32.toNatClampNeg (v2 - 1)))) → ((vp_in ((41 * v1) + v2) 533) ∧ (WT κ 22 [some (.inr 187), some (.inl v1), some (.inl (v2 + 1)), none] [] (mset mem 209 (Int32.toNatClampNeg ((41 * v1) + v2)) (F_X11_lesser ((F_X11_lesser (mem 209 (Int32.toNatClampNeg ((41 * (v1 - 1)) + v2))) (mem 209 (Int32.toNatClampNeg (((41 * v1) + v2) - 1)))) + 1) ((mem 209 (Int32.toNatClampNeg (((41 * (v1 - 1)) + v2) - 1))) + 1)))))))))))))))))))))) : WT κ 22 [some (.inr 187), some (.inl v1), some (.inl v2), none] [] mem := by
  refine tr_iload_n hC dX11_edits_22 rfl rfl ?_
  refine tr_aload_n hC dX11_edits_23 rfl rfl ?_
  refine tr_gi (v := mem 187 26) hC dX11_edits_24 gf_X11_150 sh_187 rfl rfl ?_
  refine tr_icmp_gt hC dX11_edits_27 (tgt := 152) rfl (fun c27 => ?_) (fun c27 => ?_)
  · replace h := h.1 c27
    refine tr_iinc (v := v1 + 1) (loc2 := [some (.inr 187), some (.inl (v1 + 1)), some (.inl v2), none]) hC dX11_edits_152 rfl rfl (by decide) rfl ?_
    refine tr_goto hC dX11_edits_155 (tgt := 12) rfl ?_
    exact tr_weak (tl_s (tl_s (tl_n (tl_n (tl_nil _))))) h
  · replace h := h.2 c27
    refine tr_iload_n hC dX11_edits_30 rfl rfl ?_
    refine tr_if_ne hC dX11_edits_31 (tgt := 38) rfl (fun c31 => ?_) (fun c31 => ?_)
    · replace h := h.2 c31
      refine tr_iload_n hC dX11_edits_38 rfl rfl ?_
      refine tr_if_ne hC dX11_edits_39 (tgt := 46) rfl (fun c39 => ?_) (fun c39 => ?_)
      · replace h := h.2 c39
        refine tr_ldc hC dX11_edits_46 lc_X11_119 ?_
        refine tr_istore_n (loc2 := [some (.inr 187), some (.inl v1), some (.inl v2), some (.inl 1000000)]) hC dX11_edits_48 rfl (by decide) rfl ?_
        refine tr_iload_n hC dX11_edits_49 rfl rfl ?_
        refine tr_if_le hC dX11_edits_50 (tgt := 134) rfl (fun c50 => ?_) (fun c50 => ?_)
        · replace h := h.1 c50
          refine tr_aload_n hC dX11_edits_134 rfl rfl ?_
          refine tr_getr hC dX11_edits_135 gf_X11_86 sh_187 rfl ?_
          refine tr_bipush (v := 41) hC dX11_edits_138 (by decide) ?_
          refine tr_iload_n hC dX11_edits_140 rfl rfl ?_
          refine tr_imul hC dX11_edits_141 ?_
          refine tr_iload_n hC dX11_edits_142 rfl rfl ?_
          refine tr_iadd hC dX11_edits_143 ?_
          refine tr_iload_n hC dX11_edits_144 rfl rfl ?_
          obtain ⟨g1, h⟩ := h
          refine tr_iast hC dX11_edits_145 sh_209 g1 ?_
          refine tr_iinc (v := v2 + 1) (loc2 := [some (.inr 187), some (.inl v1), some (.inl (v2 + 1)), some (.inl 1000000)]) hC dX11_edits_146 rfl rfl (by decide) rfl ?_
          refine tr_goto hC dX11_edits_149 (tgt := 22) rfl ?_
          exact tr_weak (tl_s (tl_s (tl_s (tl_n (tl_nil _))))) h
        · replace h := h.2 c50
          refine tr_iload_n hC dX11_edits_53 rfl rfl ?_
          refine tr_if_le hC dX11_edits_54 (tgt := 134) rfl (fun c54 => ?_) (fun c54 => ?_)
          · replace h := h.1 c54
            refine tr_aload_n hC dX11_edits_134 rfl rfl ?_
            refine tr_getr hC dX11_edits_135 gf_X11_86 sh_187 rfl ?_
            refine tr_bipush (v := 41) hC dX11_edits_138 (by decide) ?_
            refine tr_iload_n hC dX11_edits_140 rfl rfl ?_
            refine tr_imul hC dX11_edits_141 ?_
            refine tr_iload_n hC dX11_edits_142 rfl rfl ?_
            refine tr_iadd hC dX11_edits_143 ?_
            refine tr_iload_n hC dX11_edits_144 rfl rfl ?_
            obtain ⟨g2, h⟩ := h
            refine tr_iast hC dX11_edits_145 sh_209 g2 ?_
            refine tr_iinc (v := v2 + 1) (loc2 := [some (.inr 187), some (.inl v1), some (.inl (v2 + 1)), some (.inl 1000000)]) hC dX11_edits_146 rfl rfl (by decide) rfl ?_
            refine tr_goto hC dX11_edits_149 (tgt := 22) rfl ?_
            exact tr_weak (tl_s (tl_s (tl_s (tl_n (tl_nil _))))) h
          · replace h := h.2 c54
            refine tr_aload_n hC dX11_edits_57 rfl rfl ?_
            refine tr_getr hC dX11_edits_58 gf_X11_86 sh_187 rfl ?_
            refine tr_bipush (v := 41) hC dX11_edits_61 (by decide) ?_
            refine tr_iload_n hC dX11_edits_63 rfl rfl ?_
            refine tr_iconst (v := 1) hC dX11_edits_64 (by decide) ?_
            refine tr_isub hC dX11_edits_65 ?_
            refine tr_imul hC dX11_edits_66 ?_
            refine tr_iload_n hC dX11_edits_67 rfl rfl ?_
            refine tr_iadd hC dX11_edits_68 ?_
            obtain ⟨g3, h⟩ := h
            refine tr_al (v := mem 209 (Int32.toNatClampNeg ((41 * (v1 - 1)) + v2))) hC dX11_edits_69 sh_209 g3 rfl ?_
            refine tr_aload_n hC dX11_edits_70 rfl rfl ?_
            refine tr_getr hC dX11_edits_71 gf_X11_86 sh_187 rfl ?_
            refine tr_bipush (v := 41) hC dX11_edits_74 (by decide) ?_
            refine tr_iload_n hC dX11_edits_76 rfl rfl ?_
            refine tr_imul hC dX11_edits_77 ?_
            refine tr_iload_n hC dX11_edits_78 rfl rfl ?_
            refine tr_iadd hC dX11_edits_79 ?_
            refine tr_iconst (v := 1) hC dX11_edits_80 (by decide) ?_
            refine tr_isub hC dX11_edits_81 ?_
            obtain ⟨g4, h⟩ := h
            refine tr_al (v := mem 209 (Int32.toNatClampNeg (((41 * v1) + v2) - 1))) hC dX11_edits_82 sh_209 g4 rfl ?_
            refine tr_xSi (As := [.inl (mem 209 (Int32.toNatClampNeg ((41 * (v1 - 1)) + v2))), .inl (mem 209 (Int32.toNatClampNeg (((41 * v1) + v2) - 1)))]) (fr2 := 0) (lo2 := 0) hC dX11_edits_83 mc_X11_120 mst_X11_lesser ⟨Nat.le_of_ble_eq_true rfl, Nat.le_of_ble_eq_true rfl, Nat.le_of_ble_eq_true rfl⟩ rfl (C_X11_lesser _ mem (mem 209 (Int32.toNatClampNeg ((41 * (v1 - 1)) + v2))) (mem 209 (Int32.toNatClampNeg (((41 * v1) + v2) - 1)))) ?_
            refine tr_iconst (v := 1) hC dX11_edits_86 (by decide) ?_
            refine tr_iadd hC dX11_edits_87 ?_
            refine tr_istore_n (loc2 := [some (.inr 187), some (.inl v1), some (.inl v2), some (.inl ((F_X11_lesser (mem 209 (Int32.toNatClampNeg ((41 * (v1 - 1)) + v2))) (mem 209 (Int32.toNatClampNeg (((41 * v1) + v2) - 1)))) + 1))]) hC dX11_edits_88 rfl (by decide) rfl ?_
            refine tr_iload_n hC dX11_edits_89 rfl rfl ?_
            refine tr_aload_n hC dX11_edits_90 rfl rfl ?_
            refine tr_getr hC dX11_edits_91 gf_X11_86 sh_187 rfl ?_
            refine tr_bipush (v := 41) hC dX11_edits_94 (by decide) ?_
            refine tr_iload_n hC dX11_edits_96 rfl rfl ?_
            refine tr_iconst (v := 1) hC dX11_edits_97 (by decide) ?_
            refine tr_isub hC dX11_edits_98 ?_
            refine tr_imul hC dX11_edits_99 ?_
            refine tr_iload_n hC dX11_edits_100 rfl rfl ?_
            refine tr_iadd hC dX11_edits_101 ?_
            refine tr_iconst (v := 1) hC dX11_edits_102 (by decide) ?_
            refine tr_isub hC dX11_edits_103 ?_
            obtain ⟨g5, h⟩ := h
            refine tr_al (v := mem 209 (Int32.toNatClampNeg (((41 * (v1 - 1)) + v2) - 1))) hC dX11_edits_104 sh_209 g5 rfl ?_
            refine tr_aload_n hC dX11_edits_105 rfl rfl ?_
            refine tr_getr hC dX11_edits_106 gf_X11_32 sh_187 rfl ?_
            refine tr_iload_n hC dX11_edits_109 rfl rfl ?_
            refine tr_iconst (v := 1) hC dX11_edits_110 (by decide) ?_
            refine tr_isub hC dX11_edits_111 ?_
            obtain ⟨g6, h⟩ := h
            refine tr_al (v := mem 194 (Int32.toNatClampNeg (v1 - 1))) hC dX11_edits_112 sh_194 g6 rfl ?_
            refine tr_aload_n hC dX11_edits_113 rfl rfl ?_
            refine tr_getr hC dX11_edits_114 gf_X11_74 sh_187 rfl ?_
            refine tr_iload_n hC dX11_edits_117 rfl rfl ?_
            refine tr_iconst (v := 1) hC dX11_edits_118 (by decide) ?_
            refine tr_isub hC dX11_edits_119 ?_
            obtain ⟨g7, h⟩ := h
            refine tr_al (v := mem 205 (Int32.toNatClampNeg (v2 - 1))) hC dX11_edits_120 sh_205 g7 rfl ?_
            refine tr_icmp_ne hC dX11_edits_121 (tgt := 128) rfl (fun c121 => ?_) (fun c121 => ?_)
            · replace h := h.2 c121
              refine tr_iconst (v := 1) hC dX11_edits_128 (by decide) ?_
              refine tr_iadd hC dX11_edits_129 ?_
              refine tr_xSi (As := [.inl ((F_X11_lesser (mem 209 (Int32.toNatClampNeg ((41 * (v1 - 1)) + v2))) (mem 209 (Int32.toNatClampNeg (((41 * v1) + v2) - 1)))) + 1), .inl ((mem 209 (Int32.toNatClampNeg (((41 * (v1 - 1)) + v2) - 1))) + 1)]) (fr2 := 0) (lo2 := 0) hC dX11_edits_130 mc_X11_120 mst_X11_lesser ⟨Nat.le_of_ble_eq_true rfl, Nat.le_of_ble_eq_true rfl, Nat.le_of_ble_eq_true rfl⟩ rfl (C_X11_lesser _ mem ((F_X11_lesser (mem 209 (Int32.toNatClampNeg ((41 * (v1 - 1)) + v2))) (mem 209 (Int32.toNatClampNeg (((41 * v1) + v2) - 1)))) + 1) ((mem 209 (Int32.toNatClampNeg (((41 * (v1 - 1)) + v2) - 1))) + 1)) ?_
              refine tr_istore_n (loc2 := [some (.inr 187), some (.inl v1), some (.inl v2), some (.inl (F_X11_lesser ((F_X11_lesser (mem 209 (Int32.toNatClampNeg ((41 * (v1 - 1)) + v2))) (mem 209 (Int32.toNatClampNeg (((41 * v1) + v2) - 1)))) + 1) ((mem 209 (Int32.toNatClampNeg (((41 * (v1 - 1)) + v2) - 1))) + 1)))]) hC dX11_edits_133 rfl (by decide) rfl ?_
              refine tr_aload_n hC dX11_edits_134 rfl rfl ?_
              refine tr_getr hC dX11_edits_135 gf_X11_86 sh_187 rfl ?_
              refine tr_bipush (v := 41) hC dX11_edits_138 (by decide) ?_
              refine tr_iload_n hC dX11_edits_140 rfl rfl ?_
              refine tr_imul hC dX11_edits_141 ?_
              refine tr_iload_n hC dX11_edits_142 rfl rfl ?_
              refine tr_iadd hC dX11_edits_143 ?_
              refine tr_iload_n hC dX11_edits_144 rfl rfl ?_
              obtain ⟨g8, h⟩ := h
              refine tr_iast hC dX11_edits_145 sh_209 g8 ?_
              refine tr_iinc (v := v2 + 1) (loc2 := [some (.inr 187), some (.inl v1), some (.inl (v2 + 1)), some (.inl (F_X11_lesser ((F_X11_lesser (mem 209 (Int32.toNatClampNeg ((41 * (v1 - 1)) + v2))) (mem 209 (Int32.toNatClampNeg (((41 * v1) + v2) - 1)))) + 1) ((mem 209 (Int32.toNatClampNeg (((41 * (v1 - 1)) + v2) - 1))) + 1)))]) hC dX11_edits_146 rfl rfl (by decide) rfl ?_
              refine tr_goto hC dX11_edits_149 (tgt := 22) rfl ?_
              exact tr_weak (tl_s (tl_s (tl_s (tl_n (tl_nil _))))) h
            · replace h := h.1 c121
              refine tr_iconst (v := 0) hC dX11_edits_124 (by decide) ?_
              refine tr_goto hC dX11_edits_125 (tgt := 129) rfl ?_
              refine tr_iadd hC dX11_edits_129 ?_
              refine tr_xSi (As := [.inl ((F_X11_lesser (mem 209 (Int32.toNatClampNeg ((41 * (v1 - 1)) + v2))) (mem 209 (Int32.toNatClampNeg (((41 * v1) + v2) - 1)))) + 1), .inl ((mem 209 (Int32.toNatClampNeg (((41 * (v1 - 1)) + v2) - 1))) + 0)]) (fr2 := 0) (lo2 := 0) hC dX11_edits_130 mc_X11_120 mst_X11_lesser ⟨Nat.le_of_ble_eq_true rfl, Nat.le_of_ble_eq_true rfl, Nat.le_of_ble_eq_true rfl⟩ rfl (C_X11_lesser _ mem ((F_X11_lesser (mem 209 (Int32.toNatClampNeg ((41 * (v1 - 1)) + v2))) (mem 209 (Int32.toNatClampNeg (((41 * v1) + v2) - 1)))) + 1) ((mem 209 (Int32.toNatClampNeg (((41 * (v1 - 1)) + v2) - 1))) + 0)) ?_
              refine tr_istore_n (loc2 := [some (.inr 187), some (.inl v1), some (.inl v2), some (.inl (F_X11_lesser ((F_X11_lesser (mem 209 (Int32.toNatClampNeg ((41 * (v1 - 1)) + v2))) (mem 209 (Int32.toNatClampNeg (((41 * v1) + v2) - 1)))) + 1) ((mem 209 (Int32.toNatClampNeg (((41 * (v1 - 1)) + v2) - 1))) + 0)))]) hC dX11_edits_133 rfl (by decide) rfl ?_
              refine tr_aload_n hC dX11_edits_134 rfl rfl ?_
              refine tr_getr hC dX11_edits_135 gf_X11_86 sh_187 rfl ?_
              refine tr_bipush (v := 41) hC dX11_edits_138 (by decide) ?_
              refine tr_iload_n hC dX11_edits_140 rfl rfl ?_
              refine tr_imul hC dX11_edits_141 ?_
              refine tr_iload_n hC dX11_edits_142 rfl rfl ?_
              refine tr_iadd hC dX11_edits_143 ?_
              refine tr_iload_n hC dX11_edits_144 rfl rfl ?_
              obtain ⟨g9, h⟩ := h
              refine tr_iast hC dX11_edits_145 sh_209 g9 ?_
              refine tr_iinc (v := v2 + 1) (loc2 := [some (.inr 187), some (.inl v1), some (.inl (v2 + 1)), some (.inl (F_X11_lesser ((F_X11_lesser (mem 209 (Int32.toNatClampNeg ((41 * (v1 - 1)) + v2))) (mem 209 (Int32.toNatClampNeg (((41 * v1) + v2) - 1)))) + 1) ((mem 209 (Int32.toNatClampNeg (((41 * (v1 - 1)) + v2) - 1))) + 0)))]) hC dX11_edits_146 rfl rfl (by decide) rfl ?_
              refine tr_goto hC dX11_edits_149 (tgt := 22) rfl ?_
              exact tr_weak (tl_s (tl_s (tl_s (tl_n (tl_nil _))))) h
      · replace h := h.1 c39
        refine tr_iload_n hC dX11_edits_42 rfl rfl ?_
        refine tr_goto hC dX11_edits_43 (tgt := 48) rfl ?_
        refine tr_istore_n (loc2 := [some (.inr 187), some (.inl v1), some (.inl v2), some (.inl v1)]) hC dX11_edits_48 rfl (by decide) rfl ?_
        refine tr_iload_n hC dX11_edits_49 rfl rfl ?_
        refine tr_if_le hC dX11_edits_50 (tgt := 134) rfl (fun c50 => ?_) (fun c50 => ?_)
        · replace h := h.1 c50
          refine tr_aload_n hC dX11_edits_134 rfl rfl ?_
          refine tr_getr hC dX11_edits_135 gf_X11_86 sh_187 rfl ?_
          refine tr_bipush (v := 41) hC dX11_edits_138 (by decide) ?_
          refine tr_iload_n hC dX11_edits_140 rfl rfl ?_
          refine tr_imul hC dX11_edits_141 ?_
          refine tr_iload_n hC dX11_edits_142 rfl rfl ?_
          refine tr_iadd hC dX11_edits_143 ?_
          refine tr_iload_n hC dX11_edits_144 rfl rfl ?_
          obtain ⟨g10, h⟩ := h
          refine tr_iast hC dX11_edits_145 sh_209 g10 ?_
          refine tr_iinc (v := v2 + 1) (loc2 := [some (.inr 187), some (.inl v1), some (.inl (v2 + 1)), some (.inl v1)]) hC dX11_edits_146 rfl rfl (by decide) rfl ?_
          refine tr_goto hC dX11_edits_149 (tgt := 22) rfl ?_
          exact tr_weak (tl_s (tl_s (tl_s (tl_n (tl_nil _))))) h
        · replace h := h.2 c50
          refine tr_iload_n hC dX11_edits_53 rfl rfl ?_
          refine tr_if_le hC dX11_edits_54 (tgt := 134) rfl (fun c54 => ?_) (fun c54 => ?_)
          · replace h := h.1 c54
            refine tr_aload_n hC dX11_edits_134 rfl rfl ?_
            refine tr_getr hC dX11_edits_135 gf_X11_86 sh_187 rfl ?_
            refine tr_bipush (v := 41) hC dX11_edits_138 (by decide) ?_
            refine tr_iload_n hC dX11_edits_140 rfl rfl ?_
            refine tr_imul hC dX11_edits_141 ?_
            refine tr_iload_n hC dX11_edits_142 rfl rfl ?_
            refine tr_iadd hC dX11_edits_143 ?_
            refine tr_iload_n hC dX11_edits_144 rfl rfl ?_
            obtain ⟨g11, h⟩ := h
            refine tr_iast hC dX11_edits_145 sh_209 g11 ?_
            refine tr_iinc (v := v2 + 1) (loc2 := [some (.inr 187), some (.inl v1), some (.inl (v2 + 1)), some (.inl v1)]) hC dX11_edits_146 rfl rfl (by decide) rfl ?_
            refine tr_goto hC dX11_edits_149 (tgt := 22) rfl ?_
            exact tr_weak (tl_s (tl_s (tl_s (tl_n (tl_nil _))))) h
          · replace h := h.2 c54
            refine tr_aload_n hC dX11_edits_57 rfl rfl ?_
            refine tr_getr hC dX11_edits_58 gf_X11_86 sh_187 rfl ?_
            refine tr_bipush (v := 41) hC dX11_edits_61 (by decide) ?_
            refine tr_iload_n hC dX11_edits_63 rfl rfl ?_
            refine tr_iconst (v := 1) hC dX11_edits_64 (by decide) ?_
            refine tr_isub hC dX11_edits_65 ?_
            refine tr_imul hC dX11_edits_66 ?_
            refine tr_iload_n hC dX11_edits_67 rfl rfl ?_
            refine tr_iadd hC dX11_edits_68 ?_
            obtain ⟨g12, h⟩ := h
            refine tr_al (v := mem 209 (Int32.toNatClampNeg ((41 * (v1 - 1)) + v2))) hC dX11_edits_69 sh_209 g12 rfl ?_
            refine tr_aload_n hC dX11_edits_70 rfl rfl ?_
            refine tr_getr hC dX11_edits_71 gf_X11_86 sh_187 rfl ?_
            refine tr_bipush (v := 41) hC dX11_edits_74 (by decide) ?_
            refine tr_iload_n hC dX11_edits_76 rfl rfl ?_
            refine tr_imul hC dX11_edits_77 ?_
            refine tr_iload_n hC dX11_edits_78 rfl rfl ?_
            refine tr_iadd hC dX11_edits_79 ?_
            refine tr_iconst (v := 1) hC dX11_edits_80 (by decide) ?_
            refine tr_isub hC dX11_edits_81 ?_
            obtain ⟨g13, h⟩ := h
            refine tr_al (v := mem 209 (Int32.toNatClampNeg (((41 * v1) + v2) - 1))) hC dX11_edits_82 sh_209 g13 rfl ?_
            refine tr_xSi (As := [.inl (mem 209 (Int32.toNatClampNeg ((41 * (v1 - 1)) + v2))), .inl (mem 209 (Int32.toNatClampNeg (((41 * v1) + v2) - 1)))]) (fr2 := 0) (lo2 := 0) hC dX11_edits_83 mc_X11_120 mst_X11_lesser ⟨Nat.le_of_ble_eq_true rfl, Nat.le_of_ble_eq_true rfl, Nat.le_of_ble_eq_true rfl⟩ rfl (C_X11_lesser _ mem (mem 209 (Int32.toNatClampNeg ((41 * (v1 - 1)) + v2))) (mem 209 (Int32.toNatClampNeg (((41 * v1) + v2) - 1)))) ?_
            refine tr_iconst (v := 1) hC dX11_edits_86 (by decide) ?_
            refine tr_iadd hC dX11_edits_87 ?_
            refine tr_istore_n (loc2 := [some (.inr 187), some (.inl v1), some (.inl v2), some (.inl ((F_X11_lesser (mem 209 (Int32.toNatClampNeg ((41 * (v1 - 1)) + v2))) (mem 209 (Int32.toNatClampNeg (((41 * v1) + v2) - 1)))) + 1))]) hC dX11_edits_88 rfl (by decide) rfl ?_
            refine tr_iload_n hC dX11_edits_89 rfl rfl ?_
            refine tr_aload_n hC dX11_edits_90 rfl rfl ?_
            refine tr_getr hC dX11_edits_91 gf_X11_86 sh_187 rfl ?_
            refine tr_bipush (v := 41) hC dX11_edits_94 (by decide) ?_
            refine tr_iload_n hC dX11_edits_96 rfl rfl ?_
            refine tr_iconst (v := 1) hC dX11_edits_97 (by decide) ?_
            refine tr_isub hC dX11_edits_98 ?_
            refine tr_imul hC dX11_edits_99 ?_
            refine tr_iload_n hC dX11_edits_100 rfl rfl ?_
            refine tr_iadd hC dX11_edits_101 ?_
            refine tr_iconst (v := 1) hC dX11_edits_102 (by decide) ?_
            refine tr_isub hC dX11_edits_103 ?_
            obtain ⟨g14, h⟩ := h
            refine tr_al (v := mem 209 (Int32.toNatClampNeg (((41 * (v1 - 1)) + v2) - 1))) hC dX11_edits_104 sh_209 g14 rfl ?_
            refine tr_aload_n hC dX11_edits_105 rfl rfl ?_
            refine tr_getr hC dX11_edits_106 gf_X11_32 sh_187 rfl ?_
            refine tr_iload_n hC dX11_edits_109 rfl rfl ?_
            refine tr_iconst (v := 1) hC dX11_edits_110 (by decide) ?_
            refine tr_isub hC dX11_edits_111 ?_
            obtain ⟨g15, h⟩ := h
            refine tr_al (v := mem 194 (Int32.toNatClampNeg (v1 - 1))) hC dX11_edits_112 sh_194 g15 rfl ?_
            refine tr_aload_n hC dX11_edits_113 rfl rfl ?_
            refine tr_getr hC dX11_edits_114 gf_X11_74 sh_187 rfl ?_
            refine tr_iload_n hC dX11_edits_117 rfl rfl ?_
            refine tr_iconst (v := 1) hC dX11_edits_118 (by decide) ?_
            refine tr_isub hC dX11_edits_119 ?_
            obtain ⟨g16, h⟩ := h
            refine tr_al (v := mem 205 (Int32.toNatClampNeg (v2 - 1))) hC dX11_edits_120 sh_205 g16 rfl ?_
            refine tr_icmp_ne hC dX11_edits_121 (tgt := 128) rfl (fun c121 => ?_) (fun c121 => ?_)
            · replace h := h.2 c121
              refine tr_iconst (v := 1) hC dX11_edits_128 (by decide) ?_
              refine tr_iadd hC dX11_edits_129 ?_
              refine tr_xSi (As := [.inl ((F_X11_lesser (mem 209 (Int32.toNatClampNeg ((41 * (v1 - 1)) + v2))) (mem 209 (Int32.toNatClampNeg (((41 * v1) + v2) - 1)))) + 1), .inl ((mem 209 (Int32.toNatClampNeg (((41 * (v1 - 1)) + v2) - 1))) + 1)]) (fr2 := 0) (lo2 := 0) hC dX11_edits_130 mc_X11_120 mst_X11_lesser ⟨Nat.le_of_ble_eq_true rfl, Nat.le_of_ble_eq_true rfl, Nat.le_of_ble_eq_true rfl⟩ rfl (C_X11_lesser _ mem ((F_X11_lesser (mem 209 (Int32.toNatClampNeg ((41 * (v1 - 1)) + v2))) (mem 209 (Int32.toNatClampNeg (((41 * v1) + v2) - 1)))) + 1) ((mem 209 (Int32.toNatClampNeg (((41 * (v1 - 1)) + v2) - 1))) + 1)) ?_
              refine tr_istore_n (loc2 := [some (.inr 187), some (.inl v1), some (.inl v2), some (.inl (F_X11_lesser ((F_X11_lesser (mem 209 (Int32.toNatClampNeg ((41 * (v1 - 1)) + v2))) (mem 209 (Int32.toNatClampNeg (((41 * v1) + v2) - 1)))) + 1) ((mem 209 (Int32.toNatClampNeg (((41 * (v1 - 1)) + v2) - 1))) + 1)))]) hC dX11_edits_133 rfl (by decide) rfl ?_
              refine tr_aload_n hC dX11_edits_134 rfl rfl ?_
              refine tr_getr hC dX11_edits_135 gf_X11_86 sh_187 rfl ?_
              refine tr_bipush (v := 41) hC dX11_edits_138 (by decide) ?_
              refine tr_iload_n hC dX11_edits_140 rfl rfl ?_
              refine tr_imul hC dX11_edits_141 ?_
              refine tr_iload_n hC dX11_edits_142 rfl rfl ?_
              refine tr_iadd hC dX11_edits_143 ?_
              refine tr_iload_n hC dX11_edits_144 rfl rfl ?_
              obtain ⟨g17, h⟩ := h
              refine tr_iast hC dX11_edits_145 sh_209 g17 ?_
              refine tr_iinc (v := v2 + 1) (loc2 := [some (.inr 187), some (.inl v1), some (.inl (v2 + 1)), some (.inl (F_X11_lesser ((F_X11_lesser (mem 209 (Int32.toNatClampNeg ((41 * (v1 - 1)) + v2))) (mem 209 (Int32.toNatClampNeg (((41 * v1) + v2) - 1)))) + 1) ((mem 209 (Int32.toNatClampNeg (((41 * (v1 - 1)) + v2) - 1))) + 1)))]) hC dX11_edits_146 rfl rfl (by decide) rfl ?_
              refine tr_goto hC dX11_edits_149 (tgt := 22) rfl ?_
              exact tr_weak (tl_s (tl_s (tl_s (tl_n (tl_nil _))))) h
            · replace h := h.1 c121
              refine tr_iconst (v := 0) hC dX11_edits_124 (by decide) ?_
              refine tr_goto hC dX11_edits_125 (tgt := 129) rfl ?_
              refine tr_iadd hC dX11_edits_129 ?_
              refine tr_xSi (As := [.inl ((F_X11_lesser (mem 209 (Int32.toNatClampNeg ((41 * (v1 - 1)) + v2))) (mem 209 (Int32.toNatClampNeg (((41 * v1) + v2) - 1)))) + 1), .inl ((mem 209 (Int32.toNatClampNeg (((41 * (v1 - 1)) + v2) - 1))) + 0)]) (fr2 := 0) (lo2 := 0) hC dX11_edits_130 mc_X11_120 mst_X11_lesser ⟨Nat.le_of_ble_eq_true rfl, Nat.le_of_ble_eq_true rfl, Nat.le_of_ble_eq_true rfl⟩ rfl (C_X11_lesser _ mem ((F_X11_lesser (mem 209 (Int32.toNatClampNeg ((41 * (v1 - 1)) + v2))) (mem 209 (Int32.toNatClampNeg (((41 * v1) + v2) - 1)))) + 1) ((mem 209 (Int32.toNatClampNeg (((41 * (v1 - 1)) + v2) - 1))) + 0)) ?_
              refine tr_istore_n (loc2 := [some (.inr 187), some (.inl v1), some (.inl v2), some (.inl (F_X11_lesser ((F_X11_lesser (mem 209 (Int32.toNatClampNeg ((41 * (v1 - 1)) + v2))) (mem 209 (Int32.toNatClampNeg (((41 * v1) + v2) - 1)))) + 1) ((mem 209 (Int32.toNatClampNeg (((41 * (v1 - 1)) + v2) - 1))) + 0)))]) hC dX11_edits_133 rfl (by decide) rfl ?_
              refine tr_aload_n hC dX11_edits_134 rfl rfl ?_
              refine tr_getr hC dX11_edits_135 gf_X11_86 sh_187 rfl ?_
              refine tr_bipush (v := 41) hC dX11_edits_138 (by decide) ?_
              refine tr_iload_n hC dX11_edits_140 rfl rfl ?_
              refine tr_imul hC dX11_edits_141 ?_
              refine tr_iload_n hC dX11_edits_142 rfl rfl ?_
              refine tr_iadd hC dX11_edits_143 ?_
              refine tr_iload_n hC dX11_edits_144 rfl rfl ?_
              obtain ⟨g18, h⟩ := h
              refine tr_iast hC dX11_edits_145 sh_209 g18 ?_
              refine tr_iinc (v := v2 + 1) (loc2 := [some (.inr 187), some (.inl v1), some (.inl (v2 + 1)), some (.inl (F_X11_lesser ((F_X11_lesser (mem 209 (Int32.toNatClampNeg ((41 * (v1 - 1)) + v2))) (mem 209 (Int32.toNatClampNeg (((41 * v1) + v2) - 1)))) + 1) ((mem 209 (Int32.toNatClampNeg (((41 * (v1 - 1)) + v2) - 1))) + 0)))]) hC dX11_edits_146 rfl rfl (by decide) rfl ?_
              refine tr_goto hC dX11_edits_149 (tgt := 22) rfl ?_
              exact tr_weak (tl_s (tl_s (tl_s (tl_n (tl_nil _))))) h
    · replace h := h.1 c31
      refine tr_iload_n hC dX11_edits_34 rfl rfl ?_
      refine tr_goto hC dX11_edits_35 (tgt := 48) rfl ?_
      refine tr_istore_n (loc2 := [some (.inr 187), some (.inl v1), some (.inl v2), some (.inl v2)]) hC dX11_edits_48 rfl (by decide) rfl ?_
      refine tr_iload_n hC dX11_edits_49 rfl rfl ?_
      refine tr_if_le hC dX11_edits_50 (tgt := 134) rfl (fun c50 => ?_) (fun c50 => ?_)
      · replace h := h.1 c50
        refine tr_aload_n hC dX11_edits_134 rfl rfl ?_
        refine tr_getr hC dX11_edits_135 gf_X11_86 sh_187 rfl ?_
        refine tr_bipush (v := 41) hC dX11_edits_138 (by decide) ?_
        refine tr_iload_n hC dX11_edits_140 rfl rfl ?_
        refine tr_imul hC dX11_edits_141 ?_
        refine tr_iload_n hC dX11_edits_142 rfl rfl ?_
        refine tr_iadd hC dX11_edits_143 ?_
        refine tr_iload_n hC dX11_edits_144 rfl rfl ?_
        obtain ⟨g19, h⟩ := h
        refine tr_iast hC dX11_edits_145 sh_209 g19 ?_
        refine tr_iinc (v := v2 + 1) (loc2 := [some (.inr 187), some (.inl v1), some (.inl (v2 + 1)), some (.inl v2)]) hC dX11_edits_146 rfl rfl (by decide) rfl ?_
        refine tr_goto hC dX11_edits_149 (tgt := 22) rfl ?_
        exact tr_weak (tl_s (tl_s (tl_s (tl_n (tl_nil _))))) h
      · replace h := h.2 c50
        refine tr_iload_n hC dX11_edits_53 rfl rfl ?_
        refine tr_if_le hC dX11_edits_54 (tgt := 134) rfl (fun c54 => ?_) (fun c54 => ?_)
        · replace h := h.1 c54
          refine tr_aload_n hC dX11_edits_134 rfl rfl ?_
          refine tr_getr hC dX11_edits_135 gf_X11_86 sh_187 rfl ?_
          refine tr_bipush (v := 41) hC dX11_edits_138 (by decide) ?_
          refine tr_iload_n hC dX11_edits_140 rfl rfl ?_
          refine tr_imul hC dX11_edits_141 ?_
          refine tr_iload_n hC dX11_edits_142 rfl rfl ?_
          refine tr_iadd hC dX11_edits_143 ?_
          refine tr_iload_n hC dX11_edits_144 rfl rfl ?_
          obtain ⟨g20, h⟩ := h
          refine tr_iast hC dX11_edits_145 sh_209 g20 ?_
          refine tr_iinc (v := v2 + 1) (loc2 := [some (.inr 187), some (.inl v1), some (.inl (v2 + 1)), some (.inl v2)]) hC dX11_edits_146 rfl rfl (by decide) rfl ?_
          refine tr_goto hC dX11_edits_149 (tgt := 22) rfl ?_
          exact tr_weak (tl_s (tl_s (tl_s (tl_n (tl_nil _))))) h
        · replace h := h.2 c54
          refine tr_aload_n hC dX11_edits_57 rfl rfl ?_
          refine tr_getr hC dX11_edits_58 gf_X11_86 sh_187 rfl ?_
          refine tr_bipush (v := 41) hC dX11_edits_61 (by decide) ?_
          refine tr_iload_n hC dX11_edits_63 rfl rfl ?_
          refine tr_iconst (v := 1) hC dX11_edits_64 (by decide) ?_
          refine tr_isub hC dX11_edits_65 ?_
          refine tr_imul hC dX11_edits_66 ?_
          refine tr_iload_n hC dX11_edits_67 rfl rfl ?_
          refine tr_iadd hC dX11_edits_68 ?_
          obtain ⟨g21, h⟩ := h
          refine tr_al (v := mem 209 (Int32.toNatClampNeg ((41 * (v1 - 1)) + v2))) hC dX11_edits_69 sh_209 g21 rfl ?_
          refine tr_aload_n hC dX11_edits_70 rfl rfl ?_
          refine tr_getr hC dX11_edits_71 gf_X11_86 sh_187 rfl ?_
          refine tr_bipush (v := 41) hC dX11_edits_74 (by decide) ?_
          refine tr_iload_n hC dX11_edits_76 rfl rfl ?_
          refine tr_imul hC dX11_edits_77 ?_
          refine tr_iload_n hC dX11_edits_78 rfl rfl ?_
          refine tr_iadd hC dX11_edits_79 ?_
          refine tr_iconst (v := 1) hC dX11_edits_80 (by decide) ?_
          refine tr_isub hC dX11_edits_81 ?_
          obtain ⟨g22, h⟩ := h
          refine tr_al (v := mem 209 (Int32.toNatClampNeg (((41 * v1) + v2) - 1))) hC dX11_edits_82 sh_209 g22 rfl ?_
          refine tr_xSi (As := [.inl (mem 209 (Int32.toNatClampNeg ((41 * (v1 - 1)) + v2))), .inl (mem 209 (Int32.toNatClampNeg (((41 * v1) + v2) - 1)))]) (fr2 := 0) (lo2 := 0) hC dX11_edits_83 mc_X11_120 mst_X11_lesser ⟨Nat.le_of_ble_eq_true rfl, Nat.le_of_ble_eq_true rfl, Nat.le_of_ble_eq_true rfl⟩ rfl (C_X11_lesser _ mem (mem 209 (Int32.toNatClampNeg ((41 * (v1 - 1)) + v2))) (mem 209 (Int32.toNatClampNeg (((41 * v1) + v2) - 1)))) ?_
          refine tr_iconst (v := 1) hC dX11_edits_86 (by decide) ?_
          refine tr_iadd hC dX11_edits_87 ?_
          refine tr_istore_n (loc2 := [some (.inr 187), some (.inl v1), some (.inl v2), some (.inl ((F_X11_lesser (mem 209 (Int32.toNatClampNeg ((41 * (v1 - 1)) + v2))) (mem 209 (Int32.toNatClampNeg (((41 * v1) + v2) - 1)))) + 1))]) hC dX11_edits_88 rfl (by decide) rfl ?_
          refine tr_iload_n hC dX11_edits_89 rfl rfl ?_
          refine tr_aload_n hC dX11_edits_90 rfl rfl ?_
          refine tr_getr hC dX11_edits_91 gf_X11_86 sh_187 rfl ?_
          refine tr_bipush (v := 41) hC dX11_edits_94 (by decide) ?_
          refine tr_iload_n hC dX11_edits_96 rfl rfl ?_
          refine tr_iconst (v := 1) hC dX11_edits_97 (by decide) ?_
          refine tr_isub hC dX11_edits_98 ?_
          refine tr_imul hC dX11_edits_99 ?_
          refine tr_iload_n hC dX11_edits_100 rfl rfl ?_
          refine tr_iadd hC dX11_edits_101 ?_
          refine tr_iconst (v := 1) hC dX11_edits_102 (by decide) ?_
          refine tr_isub hC dX11_edits_103 ?_
          obtain ⟨g23, h⟩ := h
          refine tr_al (v := mem 209 (Int32.toNatClampNeg (((41 * (v1 - 1)) + v2) - 1))) hC dX11_edits_104 sh_209 g23 rfl ?_
          refine tr_aload_n hC dX11_edits_105 rfl rfl ?_
          refine tr_getr hC dX11_edits_106 gf_X11_32 sh_187 rfl ?_
          refine tr_iload_n hC dX11_edits_109 rfl rfl ?_
          refine tr_iconst (v := 1) hC dX11_edits_110 (by decide) ?_
          refine tr_isub hC dX11_edits_111 ?_
          obtain ⟨g24, h⟩ := h
          refine tr_al (v := mem 194 (Int32.toNatClampNeg (v1 - 1))) hC dX11_edits_112 sh_194 g24 rfl ?_
          refine tr_aload_n hC dX11_edits_113 rfl rfl ?_
          refine tr_getr hC dX11_edits_114 gf_X11_74 sh_187 rfl ?_
          refine tr_iload_n hC dX11_edits_117 rfl rfl ?_
          refine tr_iconst (v := 1) hC dX11_edits_118 (by decide) ?_
          refine tr_isub hC dX11_edits_119 ?_
          obtain ⟨g25, h⟩ := h
          refine tr_al (v := mem 205 (Int32.toNatClampNeg (v2 - 1))) hC dX11_edits_120 sh_205 g25 rfl ?_
          refine tr_icmp_ne hC dX11_edits_121 (tgt := 128) rfl (fun c121 => ?_) (fun c121 => ?_)
          · replace h := h.2 c121
            refine tr_iconst (v := 1) hC dX11_edits_128 (by decide) ?_
            refine tr_iadd hC dX11_edits_129 ?_
            refine tr_xSi (As := [.inl ((F_X11_lesser (mem 209 (Int32.toNatClampNeg ((41 * (v1 - 1)) + v2))) (mem 209 (Int32.toNatClampNeg (((41 * v1) + v2) - 1)))) + 1), .inl ((mem 209 (Int32.toNatClampNeg (((41 * (v1 - 1)) + v2) - 1))) + 1)]) (fr2 := 0) (lo2 := 0) hC dX11_edits_130 mc_X11_120 mst_X11_lesser ⟨Nat.le_of_ble_eq_true rfl, Nat.le_of_ble_eq_true rfl, Nat.le_of_ble_eq_true rfl⟩ rfl (C_X11_lesser _ mem ((F_X11_lesser (mem 209 (Int32.toNatClampNeg ((41 * (v1 - 1)) + v2))) (mem 209 (Int32.toNatClampNeg (((41 * v1) + v2) - 1)))) + 1) ((mem 209 (Int32.toNatClampNeg (((41 * (v1 - 1)) + v2) - 1))) + 1)) ?_
            refine tr_istore_n (loc2 := [some (.inr 187), some (.inl v1), some (.inl v2), some (.inl (F_X11_lesser ((F_X11_lesser (mem 209 (Int32.toNatClampNeg ((41 * (v1 - 1)) + v2))) (mem 209 (Int32.toNatClampNeg (((41 * v1) + v2) - 1)))) + 1) ((mem 209 (Int32.toNatClampNeg (((41 * (v1 - 1)) + v2) - 1))) + 1)))]) hC dX11_edits_133 rfl (by decide) rfl ?_
            refine tr_aload_n hC dX11_edits_134 rfl rfl ?_
            refine tr_getr hC dX11_edits_135 gf_X11_86 sh_187 rfl ?_
            refine tr_bipush (v := 41) hC dX11_edits_138 (by decide) ?_
            refine tr_iload_n hC dX11_edits_140 rfl rfl ?_
            refine tr_imul hC dX11_edits_141 ?_
            refine tr_iload_n hC dX11_edits_142 rfl rfl ?_
            refine tr_iadd hC dX11_edits_143 ?_
            refine tr_iload_n hC dX11_edits_144 rfl rfl ?_
            obtain ⟨g26, h⟩ := h
            refine tr_iast hC dX11_edits_145 sh_209 g26 ?_
            refine tr_iinc (v := v2 + 1) (loc2 := [some (.inr 187), some (.inl v1), some (.inl (v2 + 1)), some (.inl (F_X11_lesser ((F_X11_lesser (mem 209 (Int32.toNatClampNeg ((41 * (v1 - 1)) + v2))) (mem 209 (Int32.toNatClampNeg (((41 * v1) + v2) - 1)))) + 1) ((mem 209 (Int32.toNatClampNeg (((41 * (v1 - 1)) + v2) - 1))) + 1)))]) hC dX11_edits_146 rfl rfl (by decide) rfl ?_
            refine tr_goto hC dX11_edits_149 (tgt := 22) rfl ?_
            exact tr_weak (tl_s (tl_s (tl_s (tl_n (tl_nil _))))) h
          · replace h := h.1 c121
            refine tr_iconst (v := 0) hC dX11_edits_124 (by decide) ?_
            refine tr_goto hC dX11_edits_125 (tgt := 129) rfl ?_
            refine tr_iadd hC dX11_edits_129 ?_
            refine tr_xSi (As := [.inl ((F_X11_lesser (mem 209 (Int32.toNatClampNeg ((41 * (v1 - 1)) + v2))) (mem 209 (Int32.toNatClampNeg (((41 * v1) + v2) - 1)))) + 1), .inl ((mem 209 (Int32.toNatClampNeg (((41 * (v1 - 1)) + v2) - 1))) + 0)]) (fr2 := 0) (lo2 := 0) hC dX11_edits_130 mc_X11_120 mst_X11_lesser ⟨Nat.le_of_ble_eq_true rfl, Nat.le_of_ble_eq_true rfl, Nat.le_of_ble_eq_true rfl⟩ rfl (C_X11_lesser _ mem ((F_X11_lesser (mem 209 (Int32.toNatClampNeg ((41 * (v1 - 1)) + v2))) (mem 209 (Int32.toNatClampNeg (((41 * v1) + v2) - 1)))) + 1) ((mem 209 (Int32.toNatClampNeg (((41 * (v1 - 1)) + v2) - 1))) + 0)) ?_
            refine tr_istore_n (loc2 := [some (.inr 187), some (.inl v1), some (.inl v2), some (.inl (F_X11_lesser ((F_X11_lesser (mem 209 (Int32.toNatClampNeg ((41 * (v1 - 1)) + v2))) (mem 209 (Int32.toNatClampNeg (((41 * v1) + v2) - 1)))) + 1) ((mem 209 (Int32.toNatClampNeg (((41 * (v1 - 1)) + v2) - 1))) + 0)))]) hC dX11_edits_133 rfl (by decide) rfl ?_
            refine tr_aload_n hC dX11_edits_134 rfl rfl ?_
            refine tr_getr hC dX11_edits_135 gf_X11_86 sh_187 rfl ?_
            refine tr_bipush (v := 41) hC dX11_edits_138 (by decide) ?_
            refine tr_iload_n hC dX11_edits_140 rfl rfl ?_
            refine tr_imul hC dX11_edits_141 ?_
            refine tr_iload_n hC dX11_edits_142 rfl rfl ?_
            refine tr_iadd hC dX11_edits_143 ?_
            refine tr_iload_n hC dX11_edits_144 rfl rfl ?_
            obtain ⟨g27, h⟩ := h
            refine tr_iast hC dX11_edits_145 sh_209 g27 ?_
            refine tr_iinc (v := v2 + 1) (loc2 := [some (.inr 187), some (.inl v1), some (.inl (v2 + 1)), some (.inl (F_X11_lesser ((F_X11_lesser (mem 209 (Int32.toNatClampNeg ((41 * (v1 - 1)) + v2))) (mem 209 (Int32.toNatClampNeg (((41 * v1) + v2) - 1)))) + 1) ((mem 209 (Int32.toNatClampNeg (((41 * (v1 - 1)) + v2) - 1))) + 0)))]) hC dX11_edits_146 rfl rfl (by decide) rfl ?_
            refine tr_goto hC dX11_edits_149 (tgt := 22) rfl ?_
            exact tr_weak (tl_s (tl_s (tl_s (tl_n (tl_nil _))))) h
set_option maxRecDepth 100000 in
theorem K_X11_teach_0 {κ : TCx} {post0 : Option TV → TMem → Prop} (hC : TC κ RX11 cX11_teach 4 0 0) (hT : TR κ (some .int) post0) (mem : TMem) (h : ((mem 187 11) = 0 → (post0 (some (.inl (-3))) mem)) ∧ (¬ ((mem 187 11) = 0) → (((mem 187 16) = 16 → (WT κ 21 [some (.inr 187), some (.inl 1), none, none] [] mem)) ∧ (¬ ((mem 187 16) = 16) → (WT κ 99 [some (.inr 187), some (.inl 0), some (.inl 0), none] [] mem))))) : WT κ 0 [some (.inr 187), none, none, none] [] mem := by
  refine tr_aload_n hC dX11_teach_0 rfl rfl ?_
  refine tr_gi (v := mem 187 11) hC dX11_teach_1 gf_X11_96 sh_187 rfl rfl ?_
  refine tr_if_ne hC dX11_teach_4 (tgt := 10) rfl (fun c4 => ?_) (fun c4 => ?_)
  · replace h := h.2 c4
    refine tr_aload_n hC dX11_teach_10 rfl rfl ?_
    refine tr_gi (v := mem 187 16) hC dX11_teach_11 gf_X11_179 sh_187 rfl rfl ?_
    refine tr_bipush (v := 16) hC dX11_teach_14 (by decide) ?_
    refine tr_icmp_ne hC dX11_teach_16 (tgt := 95) rfl (fun c16 => ?_) (fun c16 => ?_)
    · replace h := h.2 c16
      refine tr_iconst (v := 0) hC dX11_teach_95 (by decide) ?_
      refine tr_istore_n (loc2 := [some (.inr 187), some (.inl 0), none, none]) hC dX11_teach_96 rfl (by decide) rfl ?_
      refine tr_iconst (v := 0) hC dX11_teach_97 (by decide) ?_
      refine tr_istore_n (loc2 := [some (.inr 187), some (.inl 0), some (.inl 0), none]) hC dX11_teach_98 rfl (by decide) rfl ?_
      exact h
    · replace h := h.1 c16
      refine tr_iconst (v := 1) hC dX11_teach_19 (by decide) ?_
      refine tr_istore_n (loc2 := [some (.inr 187), some (.inl 1), none, none]) hC dX11_teach_20 rfl (by decide) rfl ?_
      exact h
  · replace h := h.1 c4
    refine tr_bipush (v := (-3)) hC dX11_teach_7 (by decide) ?_
    exact tr_iret hC hT dX11_teach_9 h
set_option maxRecDepth 100000 in
theorem K_X11_teach_21 {κ : TCx} {post0 : Option TV → TMem → Prop} (hC : TC κ RX11 cX11_teach 4 0 0) (hT : TR κ (some .int) post0) (mem : TMem) (v1 : Int32) (h : (16 ≤ v1 → (WT κ 99 [some (.inr 187), some (.inl 0), some (.inl 0), none] [] (mset mem 187 16 ((mem 187 16) - 1)))) ∧ (¬ (16 ≤ v1) → (vp_in v1 16 ∧ ((vp_in (v1 - 1) 16) ∧ (WT κ 43 [some (.inr 187), some (.inl v1), some (.inl 0), none] [] (mset mem 199 (Int32.toNatClampNeg (v1 - 1)) (mem 199 v1.toNatClampNeg))))))) : WT κ 21 [some (.inr 187), some (.inl v1), none, none] [] mem := by
  refine tr_iload_n hC dX11_teach_21 rfl rfl ?_
  refine tr_bipush (v := 16) hC dX11_teach_22 (by decide) ?_
  refine tr_icmp_ge hC dX11_teach_24 (tgt := 85) rfl (fun c24 => ?_) (fun c24 => ?_)
  · replace h := h.1 c24
    refine tr_aload_n hC dX11_teach_85 rfl rfl ?_
    refine tr_dup hC dX11_teach_86 ?_
    refine tr_gi (v := mem 187 16) hC dX11_teach_87 gf_X11_179 sh_187 rfl rfl ?_
    refine tr_iconst (v := 1) hC dX11_teach_90 (by decide) ?_
    refine tr_isub hC dX11_teach_91 ?_
    refine tr_puti hC dX11_teach_92 gp_X11_179 sh_187 rfl rfl rfl ?_
    refine tr_iconst (v := 0) hC dX11_teach_95 (by decide) ?_
    refine tr_istore_n (loc2 := [some (.inr 187), some (.inl 0), none, none]) hC dX11_teach_96 rfl (by decide) rfl ?_
    refine tr_iconst (v := 0) hC dX11_teach_97 (by decide) ?_
    refine tr_istore_n (loc2 := [some (.inr 187), some (.inl 0), some (.inl 0), none]) hC dX11_teach_98 rfl (by decide) rfl ?_
    exact h
  · replace h := h.2 c24
    refine tr_aload_n hC dX11_teach_27 rfl rfl ?_
    refine tr_getr hC dX11_teach_28 gf_X11_47 sh_187 rfl ?_
    refine tr_iload_n hC dX11_teach_31 rfl rfl ?_
    refine tr_iconst (v := 1) hC dX11_teach_32 (by decide) ?_
    refine tr_isub hC dX11_teach_33 ?_
    refine tr_aload_n hC dX11_teach_34 rfl rfl ?_
    refine tr_getr hC dX11_teach_35 gf_X11_47 sh_187 rfl ?_
    refine tr_iload_n hC dX11_teach_38 rfl rfl ?_
    obtain ⟨g1, h⟩ := h
    refine tr_al (v := mem 199 v1.toNatClampNeg) hC dX11_teach_39 sh_199 g1 rfl ?_
    obtain ⟨g2, h⟩ := h
    refine tr_iast hC dX11_teach_40 sh_199 g2 ?_
    refine tr_iconst (v := 0) hC dX11_teach_41 (by decide) ?_
    refine tr_istore_n (loc2 := [some (.inr 187), some (.inl v1), some (.inl 0), none]) hC dX11_teach_42 rfl (by decide) rfl ?_
    exact h
set_option maxRecDepth 100000 in
theorem K_X11_teach_43 {κ : TCx} {post0 : Option TV → TMem → Prop} (hC : TC κ RX11 cX11_teach 4 0 0) (hT : TR κ (some .int) post0) (mem : TMem) (v1 : Int32) (v2 : Int32) (h : (40 ≤ v2 → (WT κ 21 [some (.inr 187), some (.inl (v1 + 1)), none, none] [] mem)) ∧ (¬ (40 ≤ v2) → ((vp_in ((40 * v1) + v2) 640) ∧ ((vp_in ((40 * (v1 - 1)) + v2) 640) ∧ (WT κ 43 [some (.inr 187), some (.inl v1), some (.inl (v2 + 1)), none] [] (mset mem 200 (Int32.toNatClampNeg ((40 * (v1 - 1)) + v2)) (mem 200 (Int32.toNatClampNeg ((40 * v1) + v2))))))))) : WT κ 43 [some (.inr 187), some (.inl v1), some (.inl v2), none] [] mem := by
  refine tr_iload_n hC dX11_teach_43 rfl rfl ?_
  refine tr_bipush (v := 40) hC dX11_teach_44 (by decide) ?_
  refine tr_icmp_ge hC dX11_teach_46 (tgt := 79) rfl (fun c46 => ?_) (fun c46 => ?_)
  · replace h := h.1 c46
    refine tr_iinc (v := v1 + 1) (loc2 := [some (.inr 187), some (.inl (v1 + 1)), some (.inl v2), none]) hC dX11_teach_79 rfl rfl (by decide) rfl ?_
    refine tr_goto hC dX11_teach_82 (tgt := 21) rfl ?_
    exact tr_weak (tl_s (tl_s (tl_n (tl_n (tl_nil _))))) h
  · replace h := h.2 c46
    refine tr_aload_n hC dX11_teach_49 rfl rfl ?_
    refine tr_getr hC dX11_teach_50 gf_X11_50 sh_187 rfl ?_
    refine tr_bipush (v := 40) hC dX11_teach_53 (by decide) ?_
    refine tr_iload_n hC dX11_teach_55 rfl rfl ?_
    refine tr_iconst (v := 1) hC dX11_teach_56 (by decide) ?_
    refine tr_isub hC dX11_teach_57 ?_
    refine tr_imul hC dX11_teach_58 ?_
    refine tr_iload_n hC dX11_teach_59 rfl rfl ?_
    refine tr_iadd hC dX11_teach_60 ?_
    refine tr_aload_n hC dX11_teach_61 rfl rfl ?_
    refine tr_getr hC dX11_teach_62 gf_X11_50 sh_187 rfl ?_
    refine tr_bipush (v := 40) hC dX11_teach_65 (by decide) ?_
    refine tr_iload_n hC dX11_teach_67 rfl rfl ?_
    refine tr_imul hC dX11_teach_68 ?_
    refine tr_iload_n hC dX11_teach_69 rfl rfl ?_
    refine tr_iadd hC dX11_teach_70 ?_
    obtain ⟨g1, h⟩ := h
    refine tr_al (v := mem 200 (Int32.toNatClampNeg ((40 * v1) + v2))) hC dX11_teach_71 sh_200 g1 rfl ?_
    obtain ⟨g2, h⟩ := h
    refine tr_iast hC dX11_teach_72 sh_200 g2 ?_
    refine tr_iinc (v := v2 + 1) (loc2 := [some (.inr 187), some (.inl v1), some (.inl (v2 + 1)), none]) hC dX11_teach_73 rfl rfl (by decide) rfl ?_
    refine tr_goto hC dX11_teach_76 (tgt := 43) rfl ?_
    exact h
set_option maxRecDepth 100000 in
theorem K_X11_teach_99 {κ : TCx} {post0 : Option TV → TMem → Prop} (hC : TC κ RX11 cX11_teach 4 0 0) (hT : TR κ (some .int) post0) (mem : TMem) (v1 : Int32) (v2 : Int32) (h : ((mem 187 0) ≤ v2 → (vp_in (mem 187 16) 16 ∧ (post0 (some (.inl v1)) (mset (mset mem 199 (Int32.toNatClampNeg (mem 187 16)) v1) 187 16 ((mem 187 16) + 1))))) ∧ (¬ ((mem 187 0) ≤ v2) → (vp_in v2 40 ∧ (((mem 188 v2.toNatClampNeg) = (-1) → (WT κ 99 [some (.inr 187), some (.inl v1), some (.inl (v2 + 1)), none] [] mem)) ∧ (¬ ((mem 188 v2.toNatClampNeg) = (-1)) → ((vp_in ((8 * (mem 195 v2.toNatClampNeg)) + (mem 188 v2.toNatClampNeg)) 48) ∧ ((vp_in ((40 * (mem 187 16)) + v1) 640) ∧ (WT κ 99 [some (.inr 187), some (.inl (v1 + 1)), some (.inl (v2 + 1)), none] [] (mset (mset mem 198 (Int32.toNatClampNeg ((8 * (mem 195 v2.toNatClampNeg)) + (mem 188 v2.toNatClampNeg))) ((mem 198 (Int32.toNatClampNeg ((8 * (mem 195 v2.toNatClampNeg)) + (mem 188 v2.toNatClampNeg)))) + 1)) 200 (Int32.toNatClampNeg ((40 * (mem 187 16)) + v1)) ((8 * (mem 195 v2.toNatClampNeg)) + (mem 188 v2.toNatClampNeg))))))))))) : WT κ 99 [some (.inr 187), some (.inl v1), some (.inl v2), none] [] mem := by
  refine tr_iload_n hC dX11_teach_99 rfl rfl ?_
  refine tr_aload_n hC dX11_teach_100 rfl rfl ?_
  refine tr_gi (v := mem 187 0) hC dX11_teach_101 gf_X11_93 sh_187 rfl rfl ?_
  refine tr_icmp_ge hC dX11_teach_104 (tgt := 168) rfl (fun c104 => ?_) (fun c104 => ?_)
  · replace h := h.1 c104
    refine tr_aload_n hC dX11_teach_168 rfl rfl ?_
    refine tr_getr hC dX11_teach_169 gf_X11_47 sh_187 rfl ?_
    refine tr_aload_n hC dX11_teach_172 rfl rfl ?_
    refine tr_gi (v := mem 187 16) hC dX11_teach_173 gf_X11_179 sh_187 rfl rfl ?_
    refine tr_iload_n hC dX11_teach_176 rfl rfl ?_
    obtain ⟨g1, h⟩ := h
    refine tr_iast hC dX11_teach_177 sh_199 g1 ?_
    refine tr_aload_n hC dX11_teach_178 rfl rfl ?_
    refine tr_dup hC dX11_teach_179 ?_
    refine tr_gi (v := mem 187 16) hC dX11_teach_180 gf_X11_179 sh_187 rfl (ms_ne (by decide)) ?_
    refine tr_iconst (v := 1) hC dX11_teach_183 (by decide) ?_
    refine tr_iadd hC dX11_teach_184 ?_
    refine tr_puti hC dX11_teach_185 gp_X11_179 sh_187 rfl rfl rfl ?_
    refine tr_iload_n hC dX11_teach_188 rfl rfl ?_
    exact tr_iret hC hT dX11_teach_189 h
  · replace h := h.2 c104
    refine tr_aload_n hC dX11_teach_107 rfl rfl ?_
    refine tr_getr hC dX11_teach_108 gf_X11_7 sh_187 rfl ?_
    refine tr_iload_n hC dX11_teach_111 rfl rfl ?_
    obtain ⟨g2, h⟩ := h
    refine tr_al (v := mem 188 v2.toNatClampNeg) hC dX11_teach_112 sh_188 g2 rfl ?_
    refine tr_iconst (v := (-1)) hC dX11_teach_113 (by decide) ?_
    refine tr_icmp_eq hC dX11_teach_114 (tgt := 162) rfl (fun c114 => ?_) (fun c114 => ?_)
    · replace h := h.1 c114
      refine tr_iinc (v := v2 + 1) (loc2 := [some (.inr 187), some (.inl v1), some (.inl (v2 + 1)), none]) hC dX11_teach_162 rfl rfl (by decide) rfl ?_
      refine tr_goto hC dX11_teach_165 (tgt := 99) rfl ?_
      exact h
    · replace h := h.2 c114
      refine tr_bipush (v := 8) hC dX11_teach_117 (by decide) ?_
      refine tr_aload_n hC dX11_teach_119 rfl rfl ?_
      refine tr_getr hC dX11_teach_120 gf_X11_35 sh_187 rfl ?_
      refine tr_iload_n hC dX11_teach_123 rfl rfl ?_
      refine tr_al (v := mem 195 v2.toNatClampNeg) hC dX11_teach_124 sh_195 g2 rfl ?_
      refine tr_imul hC dX11_teach_125 ?_
      refine tr_aload_n hC dX11_teach_126 rfl rfl ?_
      refine tr_getr hC dX11_teach_127 gf_X11_7 sh_187 rfl ?_
      refine tr_iload_n hC dX11_teach_130 rfl rfl ?_
      refine tr_al (v := mem 188 v2.toNatClampNeg) hC dX11_teach_131 sh_188 g2 rfl ?_
      refine tr_iadd hC dX11_teach_132 ?_
      refine tr_istore_n (loc2 := [some (.inr 187), some (.inl v1), some (.inl v2), some (.inl ((8 * (mem 195 v2.toNatClampNeg)) + (mem 188 v2.toNatClampNeg)))]) hC dX11_teach_133 rfl (by decide) rfl ?_
      refine tr_aload_n hC dX11_teach_134 rfl rfl ?_
      refine tr_getr hC dX11_teach_135 gf_X11_44 sh_187 rfl ?_
      refine tr_iload_n hC dX11_teach_138 rfl rfl ?_
      refine tr_dup2 hC dX11_teach_139 ?_
      obtain ⟨g3, h⟩ := h
      refine tr_al (v := mem 198 (Int32.toNatClampNeg ((8 * (mem 195 v2.toNatClampNeg)) + (mem 188 v2.toNatClampNeg)))) hC dX11_teach_140 sh_198 g3 rfl ?_
      refine tr_iconst (v := 1) hC dX11_teach_141 (by decide) ?_
      refine tr_iadd hC dX11_teach_142 ?_
      refine tr_iast hC dX11_teach_143 sh_198 g3 ?_
      refine tr_aload_n hC dX11_teach_144 rfl rfl ?_
      refine tr_getr hC dX11_teach_145 gf_X11_50 sh_187 rfl ?_
      refine tr_bipush (v := 40) hC dX11_teach_148 (by decide) ?_
      refine tr_aload_n hC dX11_teach_150 rfl rfl ?_
      refine tr_gi (v := mem 187 16) hC dX11_teach_151 gf_X11_179 sh_187 rfl (ms_ne (by decide)) ?_
      refine tr_imul hC dX11_teach_154 ?_
      refine tr_iload_n hC dX11_teach_155 rfl rfl ?_
      refine tr_iadd hC dX11_teach_156 ?_
      refine tr_iload_n hC dX11_teach_157 rfl rfl ?_
      obtain ⟨g4, h⟩ := h
      refine tr_iast hC dX11_teach_158 sh_200 g4 ?_
      refine tr_iinc (v := v1 + 1) (loc2 := [some (.inr 187), some (.inl (v1 + 1)), some (.inl v2), some (.inl ((8 * (mem 195 v2.toNatClampNeg)) + (mem 188 v2.toNatClampNeg)))]) hC dX11_teach_159 rfl rfl (by decide) rfl ?_
      refine tr_iinc (v := v2 + 1) (loc2 := [some (.inr 187), some (.inl (v1 + 1)), some (.inl (v2 + 1)), some (.inl ((8 * (mem 195 v2.toNatClampNeg)) + (mem 188 v2.toNatClampNeg)))]) hC dX11_teach_162 rfl rfl (by decide) rfl ?_
      refine tr_goto hC dX11_teach_165 (tgt := 99) rfl ?_
      exact tr_weak (tl_s (tl_s (tl_s (tl_n (tl_nil _))))) h
set_option maxRecDepth 100000 in
theorem K_X11_unteach_0 {κ : TCx} {post0 : Option TV → TMem → Prop} (hC : TC κ RX11 cX11_unteach 2 0 0) (hT : TR κ (some .int) post0) (mem : TMem) (h : ((mem 187 16) = 0 → (post0 (some (.inl (-3))) mem)) ∧ (¬ ((mem 187 16) = 0) → (WT κ 22 [some (.inr 187), some (.inl 0)] [] (mset mem 187 16 ((mem 187 16) - 1))))) : WT κ 0 [some (.inr 187), none] [] mem := by
  refine tr_aload_n hC dX11_unteach_0 rfl rfl ?_
  refine tr_gi (v := mem 187 16) hC dX11_unteach_1 gf_X11_179 sh_187 rfl rfl ?_
  refine tr_if_ne hC dX11_unteach_4 (tgt := 10) rfl (fun c4 => ?_) (fun c4 => ?_)
  · replace h := h.2 c4
    refine tr_aload_n hC dX11_unteach_10 rfl rfl ?_
    refine tr_dup hC dX11_unteach_11 ?_
    refine tr_gi (v := mem 187 16) hC dX11_unteach_12 gf_X11_179 sh_187 rfl rfl ?_
    refine tr_iconst (v := 1) hC dX11_unteach_15 (by decide) ?_
    refine tr_isub hC dX11_unteach_16 ?_
    refine tr_puti hC dX11_unteach_17 gp_X11_179 sh_187 rfl rfl rfl ?_
    refine tr_iconst (v := 0) hC dX11_unteach_20 (by decide) ?_
    refine tr_istore_n (loc2 := [some (.inr 187), some (.inl 0)]) hC dX11_unteach_21 rfl (by decide) rfl ?_
    exact h
  · replace h := h.1 c4
    refine tr_bipush (v := (-3)) hC dX11_unteach_7 (by decide) ?_
    exact tr_iret hC hT dX11_unteach_9 h
set_option maxRecDepth 100000 in
theorem K_X11_unteach_22 {κ : TCx} {post0 : Option TV → TMem → Prop} (hC : TC κ RX11 cX11_unteach 2 0 0) (hT : TR κ (some .int) post0) (mem : TMem) (v1 : Int32) (h : vp_in (mem 187 16) 16 ∧ (((mem 199 (Int32.toNatClampNeg (mem 187 16))) ≤ v1 → post0 (some (.inl (mem 199 (Int32.toNatClampNeg (mem 187 16))))) mem) ∧ (¬ ((mem 199 (Int32.toNatClampNeg (mem 187 16))) ≤ v1) → ((vp_in ((40 * (mem 187 16)) + v1) 640) ∧ ((vp_in (mem 200 (Int32.toNatClampNeg ((40 * (mem 187 16)) + v1))) 48) ∧ (WT κ 22 [some (.inr 187), some (.inl (v1 + 1))] [] (mset mem 198 (Int32.toNatClampNeg (mem 200 (Int32.toNatClampNeg ((40 * (mem 187 16)) + v1)))) ((mem 198 (Int32.toNatClampNeg (mem 200 (Int32.toNatClampNeg ((40 * (mem 187 16)) + v1))))) - 1)))))))) : WT κ 22 [some (.inr 187), some (.inl v1)] [] mem := by
  refine tr_iload_n hC dX11_unteach_22 rfl rfl ?_
  refine tr_aload_n hC dX11_unteach_23 rfl rfl ?_
  refine tr_getr hC dX11_unteach_24 gf_X11_47 sh_187 rfl ?_
  refine tr_aload_n hC dX11_unteach_27 rfl rfl ?_
  refine tr_gi (v := mem 187 16) hC dX11_unteach_28 gf_X11_179 sh_187 rfl rfl ?_
  obtain ⟨g1, h⟩ := h
  refine tr_al (v := mem 199 (Int32.toNatClampNeg (mem 187 16))) hC dX11_unteach_31 sh_199 g1 rfl ?_
  refine tr_icmp_ge hC dX11_unteach_32 (tgt := 64) rfl (fun c32 => ?_) (fun c32 => ?_)
  · replace h := h.1 c32
    refine tr_aload_n hC dX11_unteach_64 rfl rfl ?_
    refine tr_getr hC dX11_unteach_65 gf_X11_47 sh_187 rfl ?_
    refine tr_aload_n hC dX11_unteach_68 rfl rfl ?_
    refine tr_gi (v := mem 187 16) hC dX11_unteach_69 gf_X11_179 sh_187 rfl rfl ?_
    refine tr_al (v := mem 199 (Int32.toNatClampNeg (mem 187 16))) hC dX11_unteach_72 sh_199 g1 rfl ?_
    exact tr_iret hC hT dX11_unteach_73 h
  · replace h := h.2 c32
    refine tr_aload_n hC dX11_unteach_35 rfl rfl ?_
    refine tr_getr hC dX11_unteach_36 gf_X11_44 sh_187 rfl ?_
    refine tr_aload_n hC dX11_unteach_39 rfl rfl ?_
    refine tr_getr hC dX11_unteach_40 gf_X11_50 sh_187 rfl ?_
    refine tr_bipush (v := 40) hC dX11_unteach_43 (by decide) ?_
    refine tr_aload_n hC dX11_unteach_45 rfl rfl ?_
    refine tr_gi (v := mem 187 16) hC dX11_unteach_46 gf_X11_179 sh_187 rfl rfl ?_
    refine tr_imul hC dX11_unteach_49 ?_
    refine tr_iload_n hC dX11_unteach_50 rfl rfl ?_
    refine tr_iadd hC dX11_unteach_51 ?_
    obtain ⟨g2, h⟩ := h
    refine tr_al (v := mem 200 (Int32.toNatClampNeg ((40 * (mem 187 16)) + v1))) hC dX11_unteach_52 sh_200 g2 rfl ?_
    refine tr_dup2 hC dX11_unteach_53 ?_
    obtain ⟨g3, h⟩ := h
    refine tr_al (v := mem 198 (Int32.toNatClampNeg (mem 200 (Int32.toNatClampNeg ((40 * (mem 187 16)) + v1))))) hC dX11_unteach_54 sh_198 g3 rfl ?_
    refine tr_iconst (v := 1) hC dX11_unteach_55 (by decide) ?_
    refine tr_isub hC dX11_unteach_56 ?_
    refine tr_iast hC dX11_unteach_57 sh_198 g3 ?_
    refine tr_iinc (v := v1 + 1) (loc2 := [some (.inr 187), some (.inl (v1 + 1))]) hC dX11_unteach_58 rfl rfl (by decide) rfl ?_
    refine tr_goto hC dX11_unteach_61 (tgt := 22) rfl ?_
    exact h
set_option maxRecDepth 100000 in
theorem K_X11_renew_0 {κ : TCx} {post0 : Option TV → TMem → Prop} (hC : TC κ RX11 cX11_renew 5 0 0) (hT : TR κ (some .int) post0) (mem : TMem) (h : WT κ 4 [some (.inr 187), some (.inl 0), some (.inl 0), none, none] [] mem) : WT κ 0 [some (.inr 187), none, none, none, none] [] mem := by
  refine tr_iconst (v := 0) hC dX11_renew_0 (by decide) ?_
  refine tr_istore_n (loc2 := [some (.inr 187), some (.inl 0), none, none, none]) hC dX11_renew_1 rfl (by decide) rfl ?_
  refine tr_iconst (v := 0) hC dX11_renew_2 (by decide) ?_
  refine tr_istore_n (loc2 := [some (.inr 187), some (.inl 0), some (.inl 0), none, none]) hC dX11_renew_3 rfl (by decide) rfl ?_
  exact h
set_option maxRecDepth 100000 in
theorem K_X11_renew_4 {κ : TCx} {post0 : Option TV → TMem → Prop} (hC : TC κ RX11 cX11_renew 5 0 0) (hT : TR κ (some .int) post0) (mem : TMem) (v1 : Int32) (v2 : Int32) (h : (6 ≤ v2 → post0 (some (.inl v1)) (mset mem 187 11 0)) ∧ (¬ (6 ≤ v2) → (WT κ 15 [some (.inr 187), some (.inl v1), some (.inl v2), some (.inl 0), some (.inl 0)] [] mem))) : WT κ 4 [some (.inr 187), some (.inl v1), some (.inl v2), none, none] [] mem := by
  refine tr_iload_n hC dX11_renew_4 rfl rfl ?_
  refine tr_bipush (v := 6) hC dX11_renew_5 (by decide) ?_
  refine tr_icmp_ge hC dX11_renew_7 (tgt := 112) rfl (fun c7 => ?_) (fun c7 => ?_)
  · replace h := h.1 c7
    refine tr_aload_n hC dX11_renew_112 rfl rfl ?_
    refine tr_iconst (v := 0) hC dX11_renew_113 (by decide) ?_
    refine tr_puti hC dX11_renew_114 gp_X11_96 sh_187 rfl (by decide) (by decide) ?_
    refine tr_iload_n hC dX11_renew_117 rfl rfl ?_
    exact tr_iret hC hT dX11_renew_118 h
  · replace h := h.2 c7
    refine tr_iconst (v := 0) hC dX11_renew_10 (by decide) ?_
    refine tr_istore_n (loc2 := [some (.inr 187), some (.inl v1), some (.inl v2), some (.inl 0), none]) hC dX11_renew_11 rfl (by decide) rfl ?_
    refine tr_iconst (v := 0) hC dX11_renew_12 (by decide) ?_
    refine tr_istore (loc2 := [some (.inr 187), some (.inl v1), some (.inl v2), some (.inl 0), some (.inl 0)]) hC dX11_renew_13 (by decide) rfl ?_
    exact h
set_option maxRecDepth 100000 in
theorem K_X11_renew_15 {κ : TCx} {post0 : Option TV → TMem → Prop} (hC : TC κ RX11 cX11_renew 5 0 0) (hT : TR κ (some .int) post0) (mem : TMem) (v1 : Int32) (v2 : Int32) (v3 : Int32) (v4 : Int32) (h : (8 ≤ v4 → (WT κ 46 [some (.inr 187), some (.inl v1), some (.inl v2), some (.inl v3), some (.inl 0)] [] mem)) ∧ (¬ (8 ≤ v4) → ((vp_in ((8 * v2) + v4) 48) ∧ (WT κ 15 [some (.inr 187), some (.inl v1), some (.inl v2), some (.inl (v3 + (mem 198 (Int32.toNatClampNeg ((8 * v2) + v4))))), some (.inl (v4 + 1))] [] mem)))) : WT κ 15 [some (.inr 187), some (.inl v1), some (.inl v2), some (.inl v3), some (.inl v4)] [] mem := by
  refine tr_iload hC dX11_renew_15 rfl ?_
  refine tr_bipush (v := 8) hC dX11_renew_17 (by decide) ?_
  refine tr_icmp_ge hC dX11_renew_19 (tgt := 43) rfl (fun c19 => ?_) (fun c19 => ?_)
  · replace h := h.1 c19
    refine tr_iconst (v := 0) hC dX11_renew_43 (by decide) ?_
    refine tr_istore (loc2 := [some (.inr 187), some (.inl v1), some (.inl v2), some (.inl v3), some (.inl 0)]) hC dX11_renew_44 (by decide) rfl ?_
    exact h
  · replace h := h.2 c19
    refine tr_iload_n hC dX11_renew_22 rfl rfl ?_
    refine tr_aload_n hC dX11_renew_23 rfl rfl ?_
    refine tr_getr hC dX11_renew_24 gf_X11_44 sh_187 rfl ?_
    refine tr_bipush (v := 8) hC dX11_renew_27 (by decide) ?_
    refine tr_iload_n hC dX11_renew_29 rfl rfl ?_
    refine tr_imul hC dX11_renew_30 ?_
    refine tr_iload hC dX11_renew_31 rfl ?_
    refine tr_iadd hC dX11_renew_33 ?_
    obtain ⟨g1, h⟩ := h
    refine tr_al (v := mem 198 (Int32.toNatClampNeg ((8 * v2) + v4))) hC dX11_renew_34 sh_198 g1 rfl ?_
    refine tr_iadd hC dX11_renew_35 ?_
    refine tr_istore_n (loc2 := [some (.inr 187), some (.inl v1), some (.inl v2), some (.inl (v3 + (mem 198 (Int32.toNatClampNeg ((8 * v2) + v4))))), some (.inl v4)]) hC dX11_renew_36 rfl (by decide) rfl ?_
    refine tr_iinc (v := v4 + 1) (loc2 := [some (.inr 187), some (.inl v1), some (.inl v2), some (.inl (v3 + (mem 198 (Int32.toNatClampNeg ((8 * v2) + v4))))), some (.inl (v4 + 1))]) hC dX11_renew_37 rfl rfl (by decide) rfl ?_
    refine tr_goto hC dX11_renew_40 (tgt := 15) rfl ?_
    exact h
set_option maxRecDepth 100000 in
theorem K_X11_renew_46 {κ : TCx} {post0 : Option TV → TMem → Prop} (hC : TC κ RX11 cX11_renew 5 0 0) (hT : TR κ (some .int) post0) (mem : TMem) (v1 : Int32) (v2 : Int32) (v3 : Int32) (v4 : Int32) (h : (8 ≤ v4 → ((v3 ≤ 0 → (WT κ 4 [some (.inr 187), some (.inl (v1 + 0)), some (.inl (v2 + 1)), none, none] [] mem)) ∧ (¬ (v3 ≤ 0) → (WT κ 4 [some (.inr 187), some (.inl (v1 + 1)), some (.inl (v2 + 1)), none, none] [] mem)))) ∧ (¬ (8 ≤ v4) → ((v3 ≤ 0 → (WT κ 4 [some (.inr 187), some (.inl (v1 + 0)), some (.inl (v2 + 1)), none, none] [] mem)) ∧ (¬ (v3 ≤ 0) → ((vp_in ((8 * v2) + v4) 48) ∧ ((¬ v3 = 0) ∧ (WT κ 46 [some (.inr 187), some (.inl v1), some (.inl v2), some (.inl v3), some (.inl (v4 + 1))] [] (mset mem 189 (Int32.toNatClampNeg ((8 * v2) + v4)) ((50 * (v3 - (mem 198 (Int32.toNatClampNeg ((8 * v2) + v4))))) / v3))))))))) : WT κ 46 [some (.inr 187), some (.inl v1), some (.inl v2), some (.inl v3), some (.inl v4)] [] mem := by
  refine tr_iload hC dX11_renew_46 rfl ?_
  refine tr_bipush (v := 8) hC dX11_renew_48 (by decide) ?_
  refine tr_icmp_ge hC dX11_renew_50 (tgt := 94) rfl (fun c50 => ?_) (fun c50 => ?_)
  · replace h := h.1 c50
    refine tr_iload_n hC dX11_renew_94 rfl rfl ?_
    refine tr_iload_n hC dX11_renew_95 rfl rfl ?_
    refine tr_if_le hC dX11_renew_96 (tgt := 103) rfl (fun c96 => ?_) (fun c96 => ?_)
    · replace h := h.1 c96
      refine tr_iconst (v := 0) hC dX11_renew_103 (by decide) ?_
      refine tr_iadd hC dX11_renew_104 ?_
      refine tr_istore_n (loc2 := [some (.inr 187), some (.inl (v1 + 0)), some (.inl v2), some (.inl v3), some (.inl v4)]) hC dX11_renew_105 rfl (by decide) rfl ?_
      refine tr_iinc (v := v2 + 1) (loc2 := [some (.inr 187), some (.inl (v1 + 0)), some (.inl (v2 + 1)), some (.inl v3), some (.inl v4)]) hC dX11_renew_106 rfl rfl (by decide) rfl ?_
      refine tr_goto hC dX11_renew_109 (tgt := 4) rfl ?_
      exact tr_weak (tl_s (tl_s (tl_s (tl_n (tl_n (tl_nil _)))))) h
    · replace h := h.2 c96
      refine tr_iconst (v := 1) hC dX11_renew_99 (by decide) ?_
      refine tr_goto hC dX11_renew_100 (tgt := 104) rfl ?_
      refine tr_iadd hC dX11_renew_104 ?_
      refine tr_istore_n (loc2 := [some (.inr 187), some (.inl (v1 + 1)), some (.inl v2), some (.inl v3), some (.inl v4)]) hC dX11_renew_105 rfl (by decide) rfl ?_
      refine tr_iinc (v := v2 + 1) (loc2 := [some (.inr 187), some (.inl (v1 + 1)), some (.inl (v2 + 1)), some (.inl v3), some (.inl v4)]) hC dX11_renew_106 rfl rfl (by decide) rfl ?_
      refine tr_goto hC dX11_renew_109 (tgt := 4) rfl ?_
      exact tr_weak (tl_s (tl_s (tl_s (tl_n (tl_n (tl_nil _)))))) h
  · replace h := h.2 c50
    refine tr_iload_n hC dX11_renew_53 rfl rfl ?_
    refine tr_if_le hC dX11_renew_54 (tgt := 94) rfl (fun c54 => ?_) (fun c54 => ?_)
    · replace h := h.1 c54
      refine tr_iload_n hC dX11_renew_94 rfl rfl ?_
      refine tr_iload_n hC dX11_renew_95 rfl rfl ?_
      refine tr_if_le hC dX11_renew_96 (tgt := 103) rfl (fun _ => ?_) (fun h => absurd c54 h)
      refine tr_iconst (v := 0) hC dX11_renew_103 (by decide) ?_
      refine tr_iadd hC dX11_renew_104 ?_
      refine tr_istore_n (loc2 := [some (.inr 187), some (.inl (v1 + 0)), some (.inl v2), some (.inl v3), some (.inl v4)]) hC dX11_renew_105 rfl (by decide) rfl ?_
      refine tr_iinc (v := v2 + 1) (loc2 := [some (.inr 187), some (.inl (v1 + 0)), some (.inl (v2 + 1)), some (.inl v3), some (.inl v4)]) hC dX11_renew_106 rfl rfl (by decide) rfl ?_
      refine tr_goto hC dX11_renew_109 (tgt := 4) rfl ?_
      exact tr_weak (tl_s (tl_s (tl_s (tl_n (tl_n (tl_nil _)))))) h
    · replace h := h.2 c54
      refine tr_aload_n hC dX11_renew_57 rfl rfl ?_
      refine tr_getr hC dX11_renew_58 gf_X11_13 sh_187 rfl ?_
      refine tr_bipush (v := 8) hC dX11_renew_61 (by decide) ?_
      refine tr_iload_n hC dX11_renew_63 rfl rfl ?_
      refine tr_imul hC dX11_renew_64 ?_
      refine tr_iload hC dX11_renew_65 rfl ?_
      refine tr_iadd hC dX11_renew_67 ?_
      refine tr_bipush (v := 50) hC dX11_renew_68 (by decide) ?_
      refine tr_iload_n hC dX11_renew_70 rfl rfl ?_
      refine tr_aload_n hC dX11_renew_71 rfl rfl ?_
      refine tr_getr hC dX11_renew_72 gf_X11_44 sh_187 rfl ?_
      refine tr_bipush (v := 8) hC dX11_renew_75 (by decide) ?_
      refine tr_iload_n hC dX11_renew_77 rfl rfl ?_
      refine tr_imul hC dX11_renew_78 ?_
      refine tr_iload hC dX11_renew_79 rfl ?_
      refine tr_iadd hC dX11_renew_81 ?_
      obtain ⟨g1, h⟩ := h
      refine tr_al (v := mem 198 (Int32.toNatClampNeg ((8 * v2) + v4))) hC dX11_renew_82 sh_198 g1 rfl ?_
      refine tr_isub hC dX11_renew_83 ?_
      refine tr_imul hC dX11_renew_84 ?_
      refine tr_iload_n hC dX11_renew_85 rfl rfl ?_
      obtain ⟨g2, h⟩ := h
      refine tr_idiv hC dX11_renew_86 g2 ?_
      refine tr_iast hC dX11_renew_87 sh_189 g1 ?_
      refine tr_iinc (v := v4 + 1) (loc2 := [some (.inr 187), some (.inl v1), some (.inl v2), some (.inl v3), some (.inl (v4 + 1))]) hC dX11_renew_88 rfl rfl (by decide) rfl ?_
      refine tr_goto hC dX11_renew_91 (tgt := 46) rfl ?_
      exact h
set_option maxRecDepth 100000 in
theorem K_X11_spot_0 {κ : TCx} {post0 : Option TV → TMem → Prop} (hC : TC κ RX11 cX11_spot 9 3 72) (hT : TR κ (some .int) post0) (mem : TMem) (p1 : Int32) (p2 : Int32) (h : ((F_X11_in p1 0 ((mem 187 4) - 1)) = 0 → (post0 (some (.inl (-2))) mem)) ∧ (¬ ((F_X11_in p1 0 ((mem 187 4) - 1)) = 0) → (((F_X11_in p2 0 2) = 0 → (post0 (some (.inl (-2))) mem)) ∧ (¬ ((F_X11_in p2 0 2) = 0) → (∃ post : TMem → Prop, TMv κ.1.2.1 i_X11_layAll 2 49 [.inr 187] mem post ∧ ∀ (m21 : TMem), post m21 → (WT κ 36 [some (.inr 187), some (.inl p1), some (.inl p2), some (.inl (-1)), some (.inl (-1)), some (.inl 1000000), some (.inl 0), none, none] [] m21)))))) : WT κ 0 [some (.inr 187), some (.inl p1), some (.inl p2), none, none, none, none, none, none] [] mem := by
  refine tr_aload_n hC dX11_spot_0 rfl rfl ?_
  refine tr_iload_n hC dX11_spot_1 rfl rfl ?_
  refine tr_xVi (As := [.inl p1]) (fr2 := 1) (lo2 := 22) hC dX11_spot_2 mc_X11_111 mv_X11_isWord sh_187 rfl ⟨Nat.le_of_ble_eq_true rfl, Nat.le_of_ble_eq_true rfl, Nat.le_of_ble_eq_true rfl⟩ rfl (C_X11_isWord _ mem p1) ?_
  refine tr_if_eq hC dX11_spot_5 (tgt := 17) rfl (fun c5 => ?_) (fun c5 => ?_)
  · replace h := h.1 c5
    refine tr_bipush (v := (-2)) hC dX11_spot_17 (by decide) ?_
    exact tr_iret hC hT dX11_spot_19 h
  · replace h := h.2 c5
    refine tr_iload_n hC dX11_spot_8 rfl rfl ?_
    refine tr_iconst (v := 0) hC dX11_spot_9 (by decide) ?_
    refine tr_iconst (v := 2) hC dX11_spot_10 (by decide) ?_
    refine tr_xSi (As := [.inl p2, .inl 0, .inl 2]) (fr2 := 0) (lo2 := 0) hC dX11_spot_11 mc_X11_89 mst_X11_in ⟨Nat.le_of_ble_eq_true rfl, Nat.le_of_ble_eq_true rfl, Nat.le_of_ble_eq_true rfl⟩ rfl (C_X11_in _ mem p2 0 2) ?_
    refine tr_if_ne hC dX11_spot_14 (tgt := 20) rfl (fun c14 => ?_) (fun c14 => ?_)
    · replace h := h.2 c14
      refine tr_aload_n hC dX11_spot_20 rfl rfl ?_
      obtain ⟨post21, hM21, h⟩ := h
      refine tr_cVv (As := []) (fr2 := 2) (lo2 := 49) hC dX11_spot_21 mc_X11_137 mv_X11_layAll sh_187 rfl ⟨Nat.le_of_ble_eq_true rfl, Nat.le_of_ble_eq_true rfl, Nat.le_of_ble_eq_true rfl⟩ rfl hM21 (fun m21 hp21 => ?_)
      replace h := h m21 hp21
      refine tr_iconst (v := (-1)) hC dX11_spot_24 (by decide) ?_
      refine tr_istore_n (loc2 := [some (.inr 187), some (.inl p1), some (.inl p2), some (.inl (-1)), none, none, none, none, none]) hC dX11_spot_25 rfl (by decide) rfl ?_
      refine tr_iconst (v := (-1)) hC dX11_spot_26 (by decide) ?_
      refine tr_istore (loc2 := [some (.inr 187), some (.inl p1), some (.inl p2), some (.inl (-1)), some (.inl (-1)), none, none, none, none]) hC dX11_spot_27 (by decide) rfl ?_
      refine tr_ldc hC dX11_spot_29 lc_X11_119 ?_
      refine tr_istore (loc2 := [some (.inr 187), some (.inl p1), some (.inl p2), some (.inl (-1)), some (.inl (-1)), some (.inl 1000000), none, none, none]) hC dX11_spot_31 (by decide) rfl ?_
      refine tr_iconst (v := 0) hC dX11_spot_33 (by decide) ?_
      refine tr_istore (loc2 := [some (.inr 187), some (.inl p1), some (.inl p2), some (.inl (-1)), some (.inl (-1)), some (.inl 1000000), some (.inl 0), none, none]) hC dX11_spot_34 (by decide) rfl ?_
      exact h
    · replace h := h.1 c14
      refine tr_bipush (v := (-2)) hC dX11_spot_17 (by decide) ?_
      exact tr_iret hC hT dX11_spot_19 h
set_option maxRecDepth 100000 in
theorem K_X11_spot_36 {κ : TCx} {post0 : Option TV → TMem → Prop} (hC : TC κ RX11 cX11_spot 9 3 72) (hT : TR κ (some .int) post0) (mem : TMem) (v1 : Int32) (v2 : Int32) (v3 : Int32) (v4 : Int32) (v5 : Int32) (v6 : Int32) (h : ((mem 187 0) ≤ v6 → ((v3 = (-1) → (post0 (some (.inl (-3))) mem)) ∧ (¬ (v3 = (-1)) → ((v2 = 0 → post0 (some (.inl v3)) mem) ∧ (¬ (v2 = 0) → ((v2 = 1 → post0 (some (.inl v4)) mem) ∧ (¬ (v2 = 1) → post0 (some (.inl v5)) mem))))))) ∧ (¬ ((mem 187 0) ≤ v6) → (WT κ 51 [some (.inr 187), some (.inl v1), some (.inl v2), some (.inl v3), some (.inl v4), some (.inl v5), some (.inl v6), some (.inl (v6 + 1)), none] [] mem))) : WT κ 36 [some (.inr 187), some (.inl v1), some (.inl v2), some (.inl v3), some (.inl v4), some (.inl v5), some (.inl v6), none, none] [] mem := by
  refine tr_iload hC dX11_spot_36 rfl ?_
  refine tr_aload_n hC dX11_spot_38 rfl rfl ?_
  refine tr_gi (v := mem 187 0) hC dX11_spot_39 gf_X11_93 sh_187 rfl rfl ?_
  refine tr_icmp_ge hC dX11_spot_42 (tgt := 138) rfl (fun c42 => ?_) (fun c42 => ?_)
  · replace h := h.1 c42
    refine tr_iload_n hC dX11_spot_138 rfl rfl ?_
    refine tr_iconst (v := (-1)) hC dX11_spot_139 (by decide) ?_
    refine tr_icmp_ne hC dX11_spot_140 (tgt := 148) rfl (fun c140 => ?_) (fun c140 => ?_)
    · replace h := h.2 c140
      refine tr_iload_n hC dX11_spot_148 rfl rfl ?_
      refine tr_if_ne hC dX11_spot_149 (tgt := 156) rfl (fun c149 => ?_) (fun c149 => ?_)
      · replace h := h.2 c149
        refine tr_iload_n hC dX11_spot_156 rfl rfl ?_
        refine tr_iconst (v := 1) hC dX11_spot_157 (by decide) ?_
        refine tr_icmp_ne hC dX11_spot_158 (tgt := 166) rfl (fun c158 => ?_) (fun c158 => ?_)
        · replace h := h.2 c158
          refine tr_iload hC dX11_spot_166 rfl ?_
          exact tr_iret hC hT dX11_spot_168 h
        · replace h := h.1 c158
          refine tr_iload hC dX11_spot_161 rfl ?_
          refine tr_goto hC dX11_spot_163 (tgt := 168) rfl ?_
          exact tr_iret hC hT dX11_spot_168 h
      · replace h := h.1 c149
        refine tr_iload_n hC dX11_spot_152 rfl rfl ?_
        refine tr_goto hC dX11_spot_153 (tgt := 168) rfl ?_
        exact tr_iret hC hT dX11_spot_168 h
    · replace h := h.1 c140
      refine tr_bipush (v := (-3)) hC dX11_spot_143 (by decide) ?_
      refine tr_goto hC dX11_spot_145 (tgt := 168) rfl ?_
      exact tr_iret hC hT dX11_spot_168 h
  · replace h := h.2 c42
    refine tr_iload hC dX11_spot_45 rfl ?_
    refine tr_iconst (v := 1) hC dX11_spot_47 (by decide) ?_
    refine tr_iadd hC dX11_spot_48 ?_
    refine tr_istore (loc2 := [some (.inr 187), some (.inl v1), some (.inl v2), some (.inl v3), some (.inl v4), some (.inl v5), some (.inl v6), some (.inl (v6 + 1)), none]) hC dX11_spot_49 (by decide) rfl ?_
    exact h
set_option maxRecDepth 100000 in
theorem K_X11_spot_51 {κ : TCx} {post0 : Option TV → TMem → Prop} (hC : TC κ RX11 cX11_spot 9 3 72) (hT : TR κ (some .int) post0) (mem : TMem) (v1 : Int32) (v2 : Int32) (v3 : Int32) (v4 : Int32) (v5 : Int32) (v6 : Int32) (v7 : Int32) (h : ((mem 187 0) < v7 → (WT κ 36 [some (.inr 187), some (.inl v1), some (.inl v2), some (.inl v3), some (.inl v4), some (.inl v5), some (.inl (v6 + 1)), none, none] [] mem)) ∧ (¬ ((mem 187 0) < v7) → (((v6 + 20) < v7 → (WT κ 36 [some (.inr 187), some (.inl v1), some (.inl v2), some (.inl v3), some (.inl v4), some (.inl v5), some (.inl (v6 + 1)), none, none] [] mem)) ∧ (¬ ((v6 + 20) < v7) → ((vp_in ((((41 * v1) + v6) * 41) + v7) 13448) ∧ ((1000000 ≤ (mem 201 (Int32.toNatClampNeg ((((41 * v1) + v6) * 41) + v7))) → (WT κ 51 [some (.inr 187), some (.inl v1), some (.inl v2), some (.inl v3), some (.inl v4), some (.inl v5), some (.inl v6), some (.inl (v7 + 1)), none] [] mem)) ∧ (¬ (1000000 ≤ (mem 201 (Int32.toNatClampNeg ((((41 * v1) + v6) * 41) + v7)))) → ((v3 = (-1) → (WT κ 51 [some (.inr 187), some (.inl v1), some (.inl v2), some (.inl v6), some (.inl v7), some (.inl (mem 201 (Int32.toNatClampNeg ((((41 * v1) + v6) * 41) + v7)))), some (.inl v6), some (.inl (v7 + 1)), none] [] mem)) ∧ (¬ (v3 = (-1)) → (((v5 * (v7 - v6)) ≤ ((mem 201 (Int32.toNatClampNeg ((((41 * v1) + v6) * 41) + v7))) * (v4 - v3)) → (WT κ 51 [some (.inr 187), some (.inl v1), some (.inl v2), some (.inl v3), some (.inl v4), some (.inl v5), some (.inl v6), some (.inl (v7 + 1)), none] [] mem)) ∧ (¬ ((v5 * (v7 - v6)) ≤ ((mem 201 (Int32.toNatClampNeg ((((41 * v1) + v6) * 41) + v7))) * (v4 - v3))) → (WT κ 51 [some (.inr 187), some (.inl v1), some (.inl v2), some (.inl v6), some (.inl v7), some (.inl (mem 201 (Int32.toNatClampNeg ((((41 * v1) + v6) * 41) + v7)))), some (.inl v6), some (.inl (v7 + 1)), none] [] mem)))))))))))) : WT κ 51 [some (.inr 187), some (.inl v1), some (.inl v2), some (.inl v3), some (.inl v4), some (.inl v5), some (.inl v6), some (.inl v7), none] [] mem := by
  refine tr_iload hC dX11_spot_51 rfl ?_
  refine tr_aload_n hC dX11_spot_53 rfl rfl ?_
  refine tr_gi (v := mem 187 0) hC dX11_spot_54 gf_X11_93 sh_187 rfl rfl ?_
  refine tr_icmp_gt hC dX11_spot_57 (tgt := 132) rfl (fun c57 => ?_) (fun c57 => ?_)
  · replace h := h.1 c57
    refine tr_iinc (v := v6 + 1) (loc2 := [some (.inr 187), some (.inl v1), some (.inl v2), some (.inl v3), some (.inl v4), some (.inl v5), some (.inl (v6 + 1)), some (.inl v7), none]) hC dX11_spot_132 rfl rfl (by decide) rfl ?_
    refine tr_goto hC dX11_spot_135 (tgt := 36) rfl ?_
    exact tr_weak (tl_s (tl_s (tl_s (tl_s (tl_s (tl_s (tl_s (tl_n (tl_n (tl_nil _)))))))))) h
  · replace h := h.2 c57
    refine tr_iload hC dX11_spot_60 rfl ?_
    refine tr_iload hC dX11_spot_62 rfl ?_
    refine tr_bipush (v := 20) hC dX11_spot_64 (by decide) ?_
    refine tr_iadd hC dX11_spot_66 ?_
    refine tr_icmp_gt hC dX11_spot_67 (tgt := 132) rfl (fun c67 => ?_) (fun c67 => ?_)
    · replace h := h.1 c67
      refine tr_iinc (v := v6 + 1) (loc2 := [some (.inr 187), some (.inl v1), some (.inl v2), some (.inl v3), some (.inl v4), some (.inl v5), some (.inl (v6 + 1)), some (.inl v7), none]) hC dX11_spot_132 rfl rfl (by decide) rfl ?_
      refine tr_goto hC dX11_spot_135 (tgt := 36) rfl ?_
      exact tr_weak (tl_s (tl_s (tl_s (tl_s (tl_s (tl_s (tl_s (tl_n (tl_n (tl_nil _)))))))))) h
    · replace h := h.2 c67
      refine tr_aload_n hC dX11_spot_70 rfl rfl ?_
      refine tr_getr hC dX11_spot_71 gf_X11_62 sh_187 rfl ?_
      refine tr_iload_n hC dX11_spot_74 rfl rfl ?_
      refine tr_iload hC dX11_spot_75 rfl ?_
      refine tr_iload hC dX11_spot_77 rfl ?_
      refine tr_xSi (As := [.inl v1, .inl v6, .inl v7]) (fr2 := 0) (lo2 := 0) hC dX11_spot_79 mc_X11_126 mst_X11_onAt ⟨Nat.le_of_ble_eq_true rfl, Nat.le_of_ble_eq_true rfl, Nat.le_of_ble_eq_true rfl⟩ rfl (C_X11_onAt _ mem v1 v6 v7) ?_
      obtain ⟨g1, h⟩ := h
      refine tr_al (v := mem 201 (Int32.toNatClampNeg ((((41 * v1) + v6) * 41) + v7))) hC dX11_spot_82 sh_201 g1 rfl ?_
      refine tr_istore (loc2 := [some (.inr 187), some (.inl v1), some (.inl v2), some (.inl v3), some (.inl v4), some (.inl v5), some (.inl v6), some (.inl v7), some (.inl (mem 201 (Int32.toNatClampNeg ((((41 * v1) + v6) * 41) + v7))))]) hC dX11_spot_83 (by decide) rfl ?_
      refine tr_iload hC dX11_spot_85 rfl ?_
      refine tr_ldc hC dX11_spot_87 lc_X11_119 ?_
      refine tr_icmp_ge hC dX11_spot_89 (tgt := 126) rfl (fun c89 => ?_) (fun c89 => ?_)
      · replace h := h.1 c89
        refine tr_iinc (v := v7 + 1) (loc2 := [some (.inr 187), some (.inl v1), some (.inl v2), some (.inl v3), some (.inl v4), some (.inl v5), some (.inl v6), some (.inl (v7 + 1)), some (.inl (mem 201 (Int32.toNatClampNeg ((((41 * v1) + v6) * 41) + v7))))]) hC dX11_spot_126 rfl rfl (by decide) rfl ?_
        refine tr_goto hC dX11_spot_129 (tgt := 51) rfl ?_
        exact tr_weak (tl_s (tl_s (tl_s (tl_s (tl_s (tl_s (tl_s (tl_s (tl_n (tl_nil _)))))))))) h
      · replace h := h.2 c89
        refine tr_iload_n hC dX11_spot_92 rfl rfl ?_
        refine tr_iconst (v := (-1)) hC dX11_spot_93 (by decide) ?_
        refine tr_icmp_eq hC dX11_spot_94 (tgt := 115) rfl (fun c94 => ?_) (fun c94 => ?_)
        · replace h := h.1 c94
          refine tr_iload hC dX11_spot_115 rfl ?_
          refine tr_istore_n (loc2 := [some (.inr 187), some (.inl v1), some (.inl v2), some (.inl v6), some (.inl v4), some (.inl v5), some (.inl v6), some (.inl v7), some (.inl (mem 201 (Int32.toNatClampNeg ((((41 * v1) + v6) * 41) + v7))))]) hC dX11_spot_117 rfl (by decide) rfl ?_
          refine tr_iload hC dX11_spot_118 rfl ?_
          refine tr_istore (loc2 := [some (.inr 187), some (.inl v1), some (.inl v2), some (.inl v6), some (.inl v7), some (.inl v5), some (.inl v6), some (.inl v7), some (.inl (mem 201 (Int32.toNatClampNeg ((((41 * v1) + v6) * 41) + v7))))]) hC dX11_spot_120 (by decide) rfl ?_
          refine tr_iload hC dX11_spot_122 rfl ?_
          refine tr_istore (loc2 := [some (.inr 187), some (.inl v1), some (.inl v2), some (.inl v6), some (.inl v7), some (.inl (mem 201 (Int32.toNatClampNeg ((((41 * v1) + v6) * 41) + v7)))), some (.inl v6), some (.inl v7), some (.inl (mem 201 (Int32.toNatClampNeg ((((41 * v1) + v6) * 41) + v7))))]) hC dX11_spot_124 (by decide) rfl ?_
          refine tr_iinc (v := v7 + 1) (loc2 := [some (.inr 187), some (.inl v1), some (.inl v2), some (.inl v6), some (.inl v7), some (.inl (mem 201 (Int32.toNatClampNeg ((((41 * v1) + v6) * 41) + v7)))), some (.inl v6), some (.inl (v7 + 1)), some (.inl (mem 201 (Int32.toNatClampNeg ((((41 * v1) + v6) * 41) + v7))))]) hC dX11_spot_126 rfl rfl (by decide) rfl ?_
          refine tr_goto hC dX11_spot_129 (tgt := 51) rfl ?_
          exact tr_weak (tl_s (tl_s (tl_s (tl_s (tl_s (tl_s (tl_s (tl_s (tl_n (tl_nil _)))))))))) h
        · replace h := h.2 c94
          refine tr_iload hC dX11_spot_97 rfl ?_
          refine tr_iload hC dX11_spot_99 rfl ?_
          refine tr_iload_n hC dX11_spot_101 rfl rfl ?_
          refine tr_isub hC dX11_spot_102 ?_
          refine tr_imul hC dX11_spot_103 ?_
          refine tr_iload hC dX11_spot_104 rfl ?_
          refine tr_iload hC dX11_spot_106 rfl ?_
          refine tr_iload hC dX11_spot_108 rfl ?_
          refine tr_isub hC dX11_spot_110 ?_
          refine tr_imul hC dX11_spot_111 ?_
          refine tr_icmp_ge hC dX11_spot_112 (tgt := 126) rfl (fun c112 => ?_) (fun c112 => ?_)
          · replace h := h.1 c112
            refine tr_iinc (v := v7 + 1) (loc2 := [some (.inr 187), some (.inl v1), some (.inl v2), some (.inl v3), some (.inl v4), some (.inl v5), some (.inl v6), some (.inl (v7 + 1)), some (.inl (mem 201 (Int32.toNatClampNeg ((((41 * v1) + v6) * 41) + v7))))]) hC dX11_spot_126 rfl rfl (by decide) rfl ?_
            refine tr_goto hC dX11_spot_129 (tgt := 51) rfl ?_
            exact tr_weak (tl_s (tl_s (tl_s (tl_s (tl_s (tl_s (tl_s (tl_s (tl_n (tl_nil _)))))))))) h
          · replace h := h.2 c112
            refine tr_iload hC dX11_spot_115 rfl ?_
            refine tr_istore_n (loc2 := [some (.inr 187), some (.inl v1), some (.inl v2), some (.inl v6), some (.inl v4), some (.inl v5), some (.inl v6), some (.inl v7), some (.inl (mem 201 (Int32.toNatClampNeg ((((41 * v1) + v6) * 41) + v7))))]) hC dX11_spot_117 rfl (by decide) rfl ?_
            refine tr_iload hC dX11_spot_118 rfl ?_
            refine tr_istore (loc2 := [some (.inr 187), some (.inl v1), some (.inl v2), some (.inl v6), some (.inl v7), some (.inl v5), some (.inl v6), some (.inl v7), some (.inl (mem 201 (Int32.toNatClampNeg ((((41 * v1) + v6) * 41) + v7))))]) hC dX11_spot_120 (by decide) rfl ?_
            refine tr_iload hC dX11_spot_122 rfl ?_
            refine tr_istore (loc2 := [some (.inr 187), some (.inl v1), some (.inl v2), some (.inl v6), some (.inl v7), some (.inl (mem 201 (Int32.toNatClampNeg ((((41 * v1) + v6) * 41) + v7)))), some (.inl v6), some (.inl v7), some (.inl (mem 201 (Int32.toNatClampNeg ((((41 * v1) + v6) * 41) + v7))))]) hC dX11_spot_124 (by decide) rfl ?_
            refine tr_iinc (v := v7 + 1) (loc2 := [some (.inr 187), some (.inl v1), some (.inl v2), some (.inl v6), some (.inl v7), some (.inl (mem 201 (Int32.toNatClampNeg ((((41 * v1) + v6) * 41) + v7)))), some (.inl v6), some (.inl (v7 + 1)), some (.inl (mem 201 (Int32.toNatClampNeg ((((41 * v1) + v6) * 41) + v7))))]) hC dX11_spot_126 rfl rfl (by decide) rfl ?_
            refine tr_goto hC dX11_spot_129 (tgt := 51) rfl ?_
            exact tr_weak (tl_s (tl_s (tl_s (tl_s (tl_s (tl_s (tl_s (tl_s (tl_n (tl_nil _)))))))))) h
set_option maxRecDepth 100000 in
theorem K_X11_firstOf_0 {κ : TCx} {post0 : Option TV → TMem → Prop} (hC : TC κ RX11 cX11_firstOf 6 0 0) (hT : TR κ (some .int) post0) (mem : TMem) (p1 : Int32) (p2 : Int32) (p3 : Int32) (h : WT κ 3 [some (.inr 187), none, some (.inl p2), some (.inl p3), some (.inl p1), none] [] mem) : WT κ 0 [some (.inr 187), some (.inl p1), some (.inl p2), some (.inl p3), none, none] [] mem := by
  refine tr_iload_n hC dX11_firstOf_0 rfl rfl ?_
  refine tr_istore (loc2 := [some (.inr 187), some (.inl p1), some (.inl p2), some (.inl p3), some (.inl p1), none]) hC dX11_firstOf_1 (by decide) rfl ?_
  exact tr_weak (tl_s (tl_n (tl_s (tl_s (tl_s (tl_n (tl_nil _))))))) h
set_option maxRecDepth 100000 in
theorem K_X11_firstOf_3 {κ : TCx} {post0 : Option TV → TMem → Prop} (hC : TC κ RX11 cX11_firstOf 6 0 0) (hT : TR κ (some .int) post0) (mem : TMem) (v2 : Int32) (v3 : Int32) (v4 : Int32) (h : ((mem 187 0) < (v4 + v2) → (post0 (some (.inl (-1))) mem)) ∧ (¬ ((mem 187 0) < (v4 + v2)) → (WT κ 17 [some (.inr 187), none, some (.inl v2), some (.inl v3), some (.inl v4), some (.inl 0)] [] mem))) : WT κ 3 [some (.inr 187), none, some (.inl v2), some (.inl v3), some (.inl v4), none] [] mem := by
  refine tr_iload hC dX11_firstOf_3 rfl ?_
  refine tr_iload_n hC dX11_firstOf_5 rfl rfl ?_
  refine tr_iadd hC dX11_firstOf_6 ?_
  refine tr_aload_n hC dX11_firstOf_7 rfl rfl ?_
  refine tr_gi (v := mem 187 0) hC dX11_firstOf_8 gf_X11_93 sh_187 rfl rfl ?_
  refine tr_icmp_gt hC dX11_firstOf_11 (tgt := 70) rfl (fun c11 => ?_) (fun c11 => ?_)
  · replace h := h.1 c11
    refine tr_iconst (v := (-1)) hC dX11_firstOf_70 (by decide) ?_
    exact tr_iret hC hT dX11_firstOf_71 h
  · replace h := h.2 c11
    refine tr_iconst (v := 0) hC dX11_firstOf_14 (by decide) ?_
    refine tr_istore (loc2 := [some (.inr 187), none, some (.inl v2), some (.inl v3), some (.inl v4), some (.inl 0)]) hC dX11_firstOf_15 (by decide) rfl ?_
    exact h
set_option maxRecDepth 100000 in
theorem K_X11_firstOf_17 {κ : TCx} {post0 : Option TV → TMem → Prop} (hC : TC κ RX11 cX11_firstOf 6 0 0) (hT : TR κ (some .int) post0) (mem : TMem) (v2 : Int32) (v3 : Int32) (v4 : Int32) (v5 : Int32) (h : (v2 ≤ v5 → ((v5 = v2 → post0 (some (.inl v4)) mem) ∧ (¬ (v5 = v2) → (WT κ 3 [some (.inr 187), none, some (.inl v2), some (.inl v3), some (.inl (v4 + 1)), none] [] mem)))) ∧ (¬ (v2 ≤ v5) → ((vp_in (v4 + v5) 40) ∧ (((mem 188 (Int32.toNatClampNeg (v4 + v5))) < (mem 187 19) → ((0 = v3 → (WT κ 17 [some (.inr 187), none, some (.inl v2), some (.inl v3), some (.inl v4), some (.inl (v5 + 1))] [] mem)) ∧ (¬ (0 = v3) → ((v5 = v2 → post0 (some (.inl v4)) mem) ∧ (¬ (v5 = v2) → (WT κ 3 [some (.inr 187), none, some (.inl v2), some (.inl v3), some (.inl (v4 + 1)), none] [] mem)))))) ∧ (¬ ((mem 188 (Int32.toNatClampNeg (v4 + v5))) < (mem 187 19)) → ((1 = v3 → (WT κ 17 [some (.inr 187), none, some (.inl v2), some (.inl v3), some (.inl v4), some (.inl (v5 + 1))] [] mem)) ∧ (¬ (1 = v3) → ((v5 = v2 → post0 (some (.inl v4)) mem) ∧ (¬ (v5 = v2) → (WT κ 3 [some (.inr 187), none, some (.inl v2), some (.inl v3), some (.inl (v4 + 1)), none] [] mem)))))))))) : WT κ 17 [some (.inr 187), none, some (.inl v2), some (.inl v3), some (.inl v4), some (.inl v5)] [] mem := by
  refine tr_iload hC dX11_firstOf_17 rfl ?_
  refine tr_iload_n hC dX11_firstOf_19 rfl rfl ?_
  refine tr_icmp_ge hC dX11_firstOf_20 (tgt := 55) rfl (fun c20 => ?_) (fun c20 => ?_)
  · replace h := h.1 c20
    refine tr_iload hC dX11_firstOf_55 rfl ?_
    refine tr_iload_n hC dX11_firstOf_57 rfl rfl ?_
    refine tr_icmp_ne hC dX11_firstOf_58 (tgt := 64) rfl (fun c58 => ?_) (fun c58 => ?_)
    · replace h := h.2 c58
      refine tr_iinc (v := v4 + 1) (loc2 := [some (.inr 187), none, some (.inl v2), some (.inl v3), some (.inl (v4 + 1)), some (.inl v5)]) hC dX11_firstOf_64 rfl rfl (by decide) rfl ?_
      refine tr_goto hC dX11_firstOf_67 (tgt := 3) rfl ?_
      exact tr_weak (tl_s (tl_n (tl_s (tl_s (tl_s (tl_n (tl_nil _))))))) h
    · replace h := h.1 c58
      refine tr_iload hC dX11_firstOf_61 rfl ?_
      exact tr_iret hC hT dX11_firstOf_63 h
  · replace h := h.2 c20
    refine tr_aload_n hC dX11_firstOf_23 rfl rfl ?_
    refine tr_getr hC dX11_firstOf_24 gf_X11_7 sh_187 rfl ?_
    refine tr_iload hC dX11_firstOf_27 rfl ?_
    refine tr_iload hC dX11_firstOf_29 rfl ?_
    refine tr_iadd hC dX11_firstOf_31 ?_
    obtain ⟨g1, h⟩ := h
    refine tr_al (v := mem 188 (Int32.toNatClampNeg (v4 + v5))) hC dX11_firstOf_32 sh_188 g1 rfl ?_
    refine tr_aload_n hC dX11_firstOf_33 rfl rfl ?_
    refine tr_gi (v := mem 187 19) hC dX11_firstOf_34 gf_X11_53 sh_187 rfl rfl ?_
    refine tr_icmp_lt hC dX11_firstOf_37 (tgt := 44) rfl (fun c37 => ?_) (fun c37 => ?_)
    · replace h := h.1 c37
      refine tr_iconst (v := 0) hC dX11_firstOf_44 (by decide) ?_
      refine tr_iload_n hC dX11_firstOf_45 rfl rfl ?_
      refine tr_icmp_ne hC dX11_firstOf_46 (tgt := 55) rfl (fun c46 => ?_) (fun c46 => ?_)
      · replace h := h.2 c46
        refine tr_iload hC dX11_firstOf_55 rfl ?_
        refine tr_iload_n hC dX11_firstOf_57 rfl rfl ?_
        refine tr_icmp_ne hC dX11_firstOf_58 (tgt := 64) rfl (fun c58 => ?_) (fun c58 => ?_)
        · replace h := h.2 c58
          refine tr_iinc (v := v4 + 1) (loc2 := [some (.inr 187), none, some (.inl v2), some (.inl v3), some (.inl (v4 + 1)), some (.inl v5)]) hC dX11_firstOf_64 rfl rfl (by decide) rfl ?_
          refine tr_goto hC dX11_firstOf_67 (tgt := 3) rfl ?_
          exact tr_weak (tl_s (tl_n (tl_s (tl_s (tl_s (tl_n (tl_nil _))))))) h
        · replace h := h.1 c58
          refine tr_iload hC dX11_firstOf_61 rfl ?_
          exact tr_iret hC hT dX11_firstOf_63 h
      · replace h := h.1 c46
        refine tr_iinc (v := v5 + 1) (loc2 := [some (.inr 187), none, some (.inl v2), some (.inl v3), some (.inl v4), some (.inl (v5 + 1))]) hC dX11_firstOf_49 rfl rfl (by decide) rfl ?_
        refine tr_goto hC dX11_firstOf_52 (tgt := 17) rfl ?_
        exact h
    · replace h := h.2 c37
      refine tr_iconst (v := 1) hC dX11_firstOf_40 (by decide) ?_
      refine tr_goto hC dX11_firstOf_41 (tgt := 45) rfl ?_
      refine tr_iload_n hC dX11_firstOf_45 rfl rfl ?_
      refine tr_icmp_ne hC dX11_firstOf_46 (tgt := 55) rfl (fun c46 => ?_) (fun c46 => ?_)
      · replace h := h.2 c46
        refine tr_iload hC dX11_firstOf_55 rfl ?_
        refine tr_iload_n hC dX11_firstOf_57 rfl rfl ?_
        refine tr_icmp_ne hC dX11_firstOf_58 (tgt := 64) rfl (fun c58 => ?_) (fun c58 => ?_)
        · replace h := h.2 c58
          refine tr_iinc (v := v4 + 1) (loc2 := [some (.inr 187), none, some (.inl v2), some (.inl v3), some (.inl (v4 + 1)), some (.inl v5)]) hC dX11_firstOf_64 rfl rfl (by decide) rfl ?_
          refine tr_goto hC dX11_firstOf_67 (tgt := 3) rfl ?_
          exact tr_weak (tl_s (tl_n (tl_s (tl_s (tl_s (tl_n (tl_nil _))))))) h
        · replace h := h.1 c58
          refine tr_iload hC dX11_firstOf_61 rfl ?_
          exact tr_iret hC hT dX11_firstOf_63 h
      · replace h := h.1 c46
        refine tr_iinc (v := v5 + 1) (loc2 := [some (.inr 187), none, some (.inl v2), some (.inl v3), some (.inl v4), some (.inl (v5 + 1))]) hC dX11_firstOf_49 rfl rfl (by decide) rfl ?_
        refine tr_goto hC dX11_firstOf_52 (tgt := 17) rfl ?_
        exact h
set_option maxRecDepth 100000 in
theorem K_X11_speech_0 {κ : TCx} {post0 : Option TV → TMem → Prop} (hC : TC κ RX11 cX11_speech 4 1 25) (hT : TR κ (some .int) post0) (mem : TMem) (p1 : Int32) (h : ((F_X11_in p1 0 1) = 0 → (post0 (some (.inl (-2))) mem)) ∧ (¬ ((F_X11_in p1 0 1) = 0) → (∃ post : Int32 → TMem → Prop, TMi κ.1.2.1 i_X11_firstOf 0 0 [.inr 187, .inl 0, .inl (mem 187 20), .inl 1] mem post ∧ ∀ (x19 : Int32) (m19 : TMem), post x19 m19 → ((x19 = (-1) → (post0 (some (.inl (-3))) m19)) ∧ (¬ (x19 = (-1)) → (∃ post : Int32 → TMem → Prop, TMi κ.1.2.1 i_X11_firstOf 0 0 [.inr 187, .inl x19, .inl (m19 187 21), .inl 0] m19 post ∧ ∀ (x38 : Int32) (m38 : TMem), post x38 m38 → ((p1 = 0 → post0 (some (.inl x19)) m38) ∧ (¬ (p1 = 0) → ((x38 = (-1) → post0 (some (.inl (m38 187 0))) m38) ∧ (¬ (x38 = (-1)) → post0 (some (.inl x38)) m38)))))))))) : WT κ 0 [some (.inr 187), some (.inl p1), none, none] [] mem := by
  refine tr_iload_n hC dX11_speech_0 rfl rfl ?_
  refine tr_iconst (v := 0) hC dX11_speech_1 (by decide) ?_
  refine tr_iconst (v := 1) hC dX11_speech_2 (by decide) ?_
  refine tr_xSi (As := [.inl p1, .inl 0, .inl 1]) (fr2 := 0) (lo2 := 0) hC dX11_speech_3 mc_X11_89 mst_X11_in ⟨Nat.le_of_ble_eq_true rfl, Nat.le_of_ble_eq_true rfl, Nat.le_of_ble_eq_true rfl⟩ rfl (C_X11_in _ mem p1 0 1) ?_
  refine tr_if_ne hC dX11_speech_6 (tgt := 12) rfl (fun c6 => ?_) (fun c6 => ?_)
  · replace h := h.2 c6
    refine tr_aload_n hC dX11_speech_12 rfl rfl ?_
    refine tr_iconst (v := 0) hC dX11_speech_13 (by decide) ?_
    refine tr_aload_n hC dX11_speech_14 rfl rfl ?_
    refine tr_gi (v := mem 187 20) hC dX11_speech_15 gf_X11_56 sh_187 rfl rfl ?_
    refine tr_iconst (v := 1) hC dX11_speech_18 (by decide) ?_
    obtain ⟨post19, hM19, h⟩ := h
    refine tr_cVi (As := [.inl 0, .inl (mem 187 20), .inl 1]) (fr2 := 0) (lo2 := 0) hC dX11_speech_19 mc_X11_182 mv_X11_firstOf sh_187 rfl ⟨Nat.le_of_ble_eq_true rfl, Nat.le_of_ble_eq_true rfl, Nat.le_of_ble_eq_true rfl⟩ rfl hM19 (fun x19 m19 hp19 => ?_)
    replace h := h x19 m19 hp19
    refine tr_istore_n (loc2 := [some (.inr 187), some (.inl p1), some (.inl x19), none]) hC dX11_speech_22 rfl (by decide) rfl ?_
    refine tr_iload_n hC dX11_speech_23 rfl rfl ?_
    refine tr_iconst (v := (-1)) hC dX11_speech_24 (by decide) ?_
    refine tr_icmp_ne hC dX11_speech_25 (tgt := 31) rfl (fun c25 => ?_) (fun c25 => ?_)
    · replace h := h.2 c25
      refine tr_aload_n hC dX11_speech_31 rfl rfl ?_
      refine tr_iload_n hC dX11_speech_32 rfl rfl ?_
      refine tr_aload_n hC dX11_speech_33 rfl rfl ?_
      refine tr_gi (v := m19 187 21) hC dX11_speech_34 gf_X11_59 sh_187 rfl rfl ?_
      refine tr_iconst (v := 0) hC dX11_speech_37 (by decide) ?_
      obtain ⟨post38, hM38, h⟩ := h
      refine tr_cVi (As := [.inl x19, .inl (m19 187 21), .inl 0]) (fr2 := 0) (lo2 := 0) hC dX11_speech_38 mc_X11_182 mv_X11_firstOf sh_187 rfl ⟨Nat.le_of_ble_eq_true rfl, Nat.le_of_ble_eq_true rfl, Nat.le_of_ble_eq_true rfl⟩ rfl hM38 (fun x38 m38 hp38 => ?_)
      replace h := h x38 m38 hp38
      refine tr_istore_n (loc2 := [some (.inr 187), some (.inl p1), some (.inl x19), some (.inl x38)]) hC dX11_speech_41 rfl (by decide) rfl ?_
      refine tr_iload_n hC dX11_speech_42 rfl rfl ?_
      refine tr_if_ne hC dX11_speech_43 (tgt := 50) rfl (fun c43 => ?_) (fun c43 => ?_)
      · replace h := h.2 c43
        refine tr_iload_n hC dX11_speech_50 rfl rfl ?_
        refine tr_iconst (v := (-1)) hC dX11_speech_51 (by decide) ?_
        refine tr_icmp_ne hC dX11_speech_52 (tgt := 62) rfl (fun c52 => ?_) (fun c52 => ?_)
        · replace h := h.2 c52
          refine tr_iload_n hC dX11_speech_62 rfl rfl ?_
          exact tr_iret hC hT dX11_speech_63 h
        · replace h := h.1 c52
          refine tr_aload_n hC dX11_speech_55 rfl rfl ?_
          refine tr_gi (v := m38 187 0) hC dX11_speech_56 gf_X11_93 sh_187 rfl rfl ?_
          refine tr_goto hC dX11_speech_59 (tgt := 63) rfl ?_
          exact tr_iret hC hT dX11_speech_63 h
      · replace h := h.1 c43
        refine tr_iload_n hC dX11_speech_46 rfl rfl ?_
        refine tr_goto hC dX11_speech_47 (tgt := 63) rfl ?_
        exact tr_iret hC hT dX11_speech_63 h
    · replace h := h.1 c25
      refine tr_bipush (v := (-3)) hC dX11_speech_28 (by decide) ?_
      exact tr_iret hC hT dX11_speech_30 h
  · replace h := h.1 c6
    refine tr_bipush (v := (-2)) hC dX11_speech_9 (by decide) ?_
    exact tr_iret hC hT dX11_speech_11 h
