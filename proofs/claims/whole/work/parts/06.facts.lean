theorem gf_X2_20 : GF RX2 20 2 2 := ⟨RX2, TX2, 4, rfl, by decide, in_X2, tb_at 74 (by decide +kernel) rfl, rfl⟩
theorem sh_1 : shp[1]? = some (.inl (2, [some 2, some 3, none, none])) := by decide +kernel
abbrev i_X2_frames : TMI := (yX2_frames, cX2_frames, 1, (some .int))
theorem gp_X6_44 : GP RX6 44 6 6 .boolean := ⟨RX6, TX6, 7, tyX6, rfl, by decide, in_X6, tb_at 155 (by decide +kernel) rfl, rfl, tyX6_ok, nmX6, rfl, by decide +kernel⟩
theorem sh_40 : shp[40]? = some (.inl (6, [some 41, some 82, some 99, some 100, some 104, none, none])) := by decide +kernel
abbrev i_X6_end : TMI := (yX6_end, cX6_end, 1, none)
theorem gp_X3_30 : GP RX3 30 3 5 .boolean := ⟨RX3, TX3, 6, tyX3, rfl, by decide, in_X3, tb_at 185 (by decide +kernel) rfl, rfl, tyX3_ok, nmX3, rfl, by decide +kernel⟩
theorem sh_108 : shp[108]? = some (.inl (3, [some 109, some 110, some 111, some 153, none, none])) := by decide +kernel
abbrev i_X3_end : TMI := (yX3_end, cX3_end, 1, none)
theorem gf_X10_26 : GF RX10 26 10 2 := ⟨RX10, TX10, 9, rfl, by decide, in_X10, tb_at 268 (by decide +kernel) rfl, rfl⟩
theorem sh_0 : shp[0]? = some (.inl (10, [some 1, some 10, some 40, some 106, some 108, some 154, some 156, some 181, some 186])) := by decide +kernel
theorem mc_X10_226 : MCW RX10 226 i_X6_end 0 := ⟨tb_at 315 (by decide +kernel) rfl, tb_at 43 (by decide +kernel) rfl, tb_at 312 (by decide +kernel) rfl, by decide +kernel, by decide +kernel, by decide +kernel⟩
theorem mv_X6_end : Cond.instanceMethod i_X6_end.1 ∈ tw_tbl ∧ Cond.selects i_X6_end.1.cls i_X6_end.1 i_X6_end.1 ∈ tw_tbl := ⟨tb_at 313 (by decide +kernel) rfl, tb_at 314 (by decide +kernel) rfl⟩
theorem gf_X10_42 : GF RX10 42 10 4 := ⟨RX10, TX10, 9, rfl, by decide, in_X10, tb_at 270 (by decide +kernel) rfl, rfl⟩
theorem mc_X10_164 : MCW RX10 164 i_X3_end 0 := ⟨tb_at 319 (by decide +kernel) rfl, tb_at 47 (by decide +kernel) rfl, tb_at 316 (by decide +kernel) rfl, by decide +kernel, by decide +kernel, by decide +kernel⟩
theorem mv_X3_end : Cond.instanceMethod i_X3_end.1 ∈ tw_tbl ∧ Cond.selects i_X3_end.1.cls i_X3_end.1 i_X3_end.1 ∈ tw_tbl := ⟨tb_at 317 (by decide +kernel) rfl, tb_at 318 (by decide +kernel) rfl⟩
abbrev i_X10_endWhatLeansOnThis : TMI := (yX10_endWhatLeansOnThis, cX10_endWhatLeansOnThis, 1, none)
theorem gf_X2_9 : GF RX2 9 2 0 := ⟨RX2, TX2, 4, rfl, by decide, in_X2, tb_at 72 (by decide +kernel) rfl, rfl⟩
theorem sh_2 : shp[2]? = some (.inr (.inl 40)) := by decide +kernel
theorem gp_X2_20 : GP RX2 20 2 2 .int := ⟨RX2, TX2, 4, tyX2, rfl, by decide, in_X2, tb_at 74 (by decide +kernel) rfl, rfl, tyX2_ok, nmX2, rfl, by decide +kernel⟩
abbrev i_X2_add : TMI := (yX2_add, cX2_add, 2, none)
abbrev i_X10_within : TMI := (yX10_within, cX10_within, 3, (some .boolean))
theorem mc_X10_94 : MCW RX10 94 i_X10_within 3 := ⟨tb_at 303 (by decide +kernel) rfl, tb_at 39 (by decide +kernel) rfl, tb_at 301 (by decide +kernel) rfl, by decide +kernel, by decide +kernel, by decide +kernel⟩
theorem mst_X10_within : Cond.static i_X10_within.1 ∈ tw_tbl := tb_at 302 (by decide +kernel) rfl
abbrev i_X10_isMark : TMI := (yX10_isMark, cX10_isMark, 1, (some .boolean))
theorem gf_X10_10 : GF RX10 10 10 0 := ⟨RX10, TX10, 9, rfl, by decide, in_X10, tb_at 266 (by decide +kernel) rfl, rfl⟩
theorem mc_X10_78 : MCW RX10 78 i_X2_frames 0 := ⟨tb_at 307 (by decide +kernel) rfl, tb_at 40 (by decide +kernel) rfl, tb_at 304 (by decide +kernel) rfl, by decide +kernel, by decide +kernel, by decide +kernel⟩
theorem mv_X2_frames : Cond.instanceMethod i_X2_frames.1 ∈ tw_tbl ∧ Cond.selects i_X2_frames.1.cls i_X2_frames.1 i_X2_frames.1 ∈ tw_tbl := ⟨tb_at 305 (by decide +kernel) rfl, tb_at 306 (by decide +kernel) rfl⟩
theorem mc_X10_82 : MCW RX10 82 i_X10_endWhatLeansOnThis 0 := ⟨tb_at 311 (by decide +kernel) rfl, tb_at 39 (by decide +kernel) rfl, tb_at 308 (by decide +kernel) rfl, by decide +kernel, by decide +kernel, by decide +kernel⟩
theorem mv_X10_endWhatLeansOnThis : Cond.instanceMethod i_X10_endWhatLeansOnThis.1 ∈ tw_tbl ∧ Cond.selects i_X10_endWhatLeansOnThis.1.cls i_X10_endWhatLeansOnThis.1 i_X10_endWhatLeansOnThis.1 ∈ tw_tbl := ⟨tb_at 310 (by decide +kernel) rfl, tb_at 0 (by decide +kernel) rfl⟩
theorem mc_X10_85 : MCW RX10 85 i_X2_add 1 := ⟨tb_at 323 (by decide +kernel) rfl, tb_at 40 (by decide +kernel) rfl, tb_at 320 (by decide +kernel) rfl, by decide +kernel, by decide +kernel, by decide +kernel⟩
theorem mv_X2_add : Cond.instanceMethod i_X2_add.1 ∈ tw_tbl ∧ Cond.selects i_X2_add.1.cls i_X2_add.1 i_X2_add.1 ∈ tw_tbl := ⟨tb_at 321 (by decide +kernel) rfl, tb_at 322 (by decide +kernel) rfl⟩
theorem mc_X10_74 : MCW RX10 74 i_X10_isMark 1 := ⟨tb_at 300 (by decide +kernel) rfl, tb_at 39 (by decide +kernel) rfl, tb_at 298 (by decide +kernel) rfl, by decide +kernel, by decide +kernel, by decide +kernel⟩
theorem mst_X10_isMark : Cond.static i_X10_isMark.1 ∈ tw_tbl := tb_at 299 (by decide +kernel) rfl
abbrev i_X10_feed : TMI := (yX10_feed, cX10_feed, 2, (some .int))
abbrev i_X11_in : TMI := (yX11_in, cX11_in, 3, (some .boolean))
theorem mc_X11_89 : MCW RX11 89 i_X11_in 3 := ⟨tb_at 848 (by decide +kernel) rfl, tb_at 52 (by decide +kernel) rfl, tb_at 846 (by decide +kernel) rfl, by decide +kernel, by decide +kernel, by decide +kernel⟩
theorem mst_X11_in : Cond.static i_X11_in.1 ∈ tw_tbl := tb_at 847 (by decide +kernel) rfl
theorem gf_X11_93 : GF RX11 93 11 0 := ⟨RX11, TX11, 32, rfl, by decide, in_X11, tb_at 745 (by decide +kernel) rfl, rfl⟩
theorem sh_187 : shp[187]? = some (.inl (11, [none, some 188, some 189, none, none, some 190, some 191, some 192, some 193, none, some 194, none, some 195, some 196, some 197, some 198, none, some 199, some 200, none, none, none, some 201, some 202, some 203, some 204, none, some 205, some 206, some 207, some 208, some 209])) := by decide +kernel
theorem gf_X11_7 : GF RX11 7 11 1 := ⟨RX11, TX11, 32, rfl, by decide, in_X11, tb_at 746 (by decide +kernel) rfl, rfl⟩
theorem sh_188 : shp[188]? = some (.inr (.inl 40)) := by decide +kernel
theorem gp_X11_93 : GP RX11 93 11 0 .int := ⟨RX11, TX11, 32, tyX11, rfl, by decide, in_X11, tb_at 745 (by decide +kernel) rfl, rfl, tyX11_ok, nmX11, rfl, by decide +kernel⟩
theorem gp_X11_96 : GP RX11 96 11 11 .boolean := ⟨RX11, TX11, 32, tyX11, rfl, by decide, in_X11, tb_at 756 (by decide +kernel) rfl, rfl, tyX11_ok, nmX11, rfl, by decide +kernel⟩
abbrev i_X11_feed : TMI := (yX11_feed, cX11_feed, 2, (some .int))
abbrev i_X2_clear : TMI := (yX2_clear, cX2_clear, 1, none)
theorem mc_X10_88 : MCW RX10 88 i_X2_clear 0 := ⟨tb_at 331 (by decide +kernel) rfl, tb_at 40 (by decide +kernel) rfl, tb_at 328 (by decide +kernel) rfl, by decide +kernel, by decide +kernel, by decide +kernel⟩
theorem mv_X2_clear : Cond.instanceMethod i_X2_clear.1 ∈ tw_tbl ∧ Cond.selects i_X2_clear.1.cls i_X2_clear.1 i_X2_clear.1 ∈ tw_tbl := ⟨tb_at 329 (by decide +kernel) rfl, tb_at 330 (by decide +kernel) rfl⟩
abbrev i_X10_hush : TMI := (yX10_hush, cX10_hush, 2, (some .int))
abbrev i_X11_hush : TMI := (yX11_hush, cX11_hush, 2, (some .int))
abbrev i_X10_isSound : TMI := (yX10_isSound, cX10_isSound, 1, (some .boolean))
theorem gf_X2_17 : GF RX2 17 2 1 := ⟨RX2, TX2, 4, rfl, by decide, in_X2, tb_at 73 (by decide +kernel) rfl, rfl⟩
theorem sh_3 : shp[3]? = some (.inr (.inr (6, 4))) := by decide +kernel
theorem shr_3 : ∀ j, j < 6 → shp[4 + j]? = some (.inr (.inl 8)) := fun j hj => of_decide_eq_true (List.all_eq_true.mp (show (List.range 6).all (fun j => decide (shp[4 + j]? = some (.inr (.inl 8)))) = true by decide +kernel) j (List.mem_range.mpr hj))
abbrev i_X2_costOf : TMI := (yX2_costOf, cX2_costOf, 3, (some .int))
abbrev i_X2_setCost : TMI := (yX2_setCost, cX2_setCost, 4, none)
theorem mc_X10_91 : MCW RX10 91 i_X10_isSound 1 := ⟨tb_at 338 (by decide +kernel) rfl, tb_at 39 (by decide +kernel) rfl, tb_at 336 (by decide +kernel) rfl, by decide +kernel, by decide +kernel, by decide +kernel⟩
theorem mst_X10_isSound : Cond.static i_X10_isSound.1 ∈ tw_tbl := tb_at 337 (by decide +kernel) rfl
theorem mc_X10_98 : MCW RX10 98 i_X2_costOf 2 := ⟨tb_at 342 (by decide +kernel) rfl, tb_at 40 (by decide +kernel) rfl, tb_at 339 (by decide +kernel) rfl, by decide +kernel, by decide +kernel, by decide +kernel⟩
theorem mv_X2_costOf : Cond.instanceMethod i_X2_costOf.1 ∈ tw_tbl ∧ Cond.selects i_X2_costOf.1.cls i_X2_costOf.1 i_X2_costOf.1 ∈ tw_tbl := ⟨tb_at 340 (by decide +kernel) rfl, tb_at 341 (by decide +kernel) rfl⟩
theorem mc_X10_102 : MCW RX10 102 i_X2_setCost 3 := ⟨tb_at 346 (by decide +kernel) rfl, tb_at 40 (by decide +kernel) rfl, tb_at 343 (by decide +kernel) rfl, by decide +kernel, by decide +kernel, by decide +kernel⟩
theorem mv_X2_setCost : Cond.instanceMethod i_X2_setCost.1 ∈ tw_tbl ∧ Cond.selects i_X2_setCost.1.cls i_X2_setCost.1 i_X2_setCost.1 ∈ tw_tbl := ⟨tb_at 344 (by decide +kernel) rfl, tb_at 345 (by decide +kernel) rfl⟩
abbrev i_X10_cost : TMI := (yX10_cost, cX10_cost, 5, (some .int))
theorem gf_X11_13 : GF RX11 13 11 2 := ⟨RX11, TX11, 32, rfl, by decide, in_X11, tb_at 747 (by decide +kernel) rfl, rfl⟩
theorem sh_189 : shp[189]? = some (.inr (.inl 48)) := by decide +kernel
abbrev i_X11_cost : TMI := (yX11_cost, cX11_cost, 5, (some .int))
theorem gf_X2_24 : GF RX2 24 2 3 := ⟨RX2, TX2, 4, rfl, by decide, in_X2, tb_at 75 (by decide +kernel) rfl, rfl⟩
abbrev i_X2_stayCost : TMI := (yX2_stayCost, cX2_stayCost, 1, (some .int))
theorem gp_X2_24 : GP RX2 24 2 3 .int := ⟨RX2, TX2, 4, tyX2, rfl, by decide, in_X2, tb_at 75 (by decide +kernel) rfl, rfl, tyX2_ok, nmX2, rfl, by decide +kernel⟩
abbrev i_X2_setStayCost : TMI := (yX2_setStayCost, cX2_setStayCost, 2, none)
theorem mc_X10_106 : MCW RX10 106 i_X2_stayCost 0 := ⟨tb_at 354 (by decide +kernel) rfl, tb_at 40 (by decide +kernel) rfl, tb_at 351 (by decide +kernel) rfl, by decide +kernel, by decide +kernel, by decide +kernel⟩
theorem mv_X2_stayCost : Cond.instanceMethod i_X2_stayCost.1 ∈ tw_tbl ∧ Cond.selects i_X2_stayCost.1.cls i_X2_stayCost.1 i_X2_stayCost.1 ∈ tw_tbl := ⟨tb_at 352 (by decide +kernel) rfl, tb_at 353 (by decide +kernel) rfl⟩
theorem mc_X10_109 : MCW RX10 109 i_X2_setStayCost 1 := ⟨tb_at 358 (by decide +kernel) rfl, tb_at 40 (by decide +kernel) rfl, tb_at 355 (by decide +kernel) rfl, by decide +kernel, by decide +kernel, by decide +kernel⟩
theorem mv_X2_setStayCost : Cond.instanceMethod i_X2_setStayCost.1 ∈ tw_tbl ∧ Cond.selects i_X2_setStayCost.1.cls i_X2_setStayCost.1 i_X2_setStayCost.1 ∈ tw_tbl := ⟨tb_at 356 (by decide +kernel) rfl, tb_at 357 (by decide +kernel) rfl⟩
abbrev i_X10_stay : TMI := (yX10_stay, cX10_stay, 3, (some .int))
theorem gf_X11_16 : GF RX11 16 11 3 := ⟨RX11, TX11, 32, rfl, by decide, in_X11, tb_at 748 (by decide +kernel) rfl, rfl⟩
theorem gp_X11_16 : GP RX11 16 11 3 .int := ⟨RX11, TX11, 32, tyX11, rfl, by decide, in_X11, tb_at 748 (by decide +kernel) rfl, rfl, tyX11_ok, nmX11, rfl, by decide +kernel⟩
abbrev i_X11_stay : TMI := (yX11_stay, cX11_stay, 3, (some .int))
abbrev i_X10_mayFollow : TMI := (yX10_mayFollow, cX10_mayFollow, 2, (some .boolean))
theorem mc_X10_227 : MCW RX10 227 i_X10_mayFollow 2 := ⟨tb_at 368 (by decide +kernel) rfl, tb_at 39 (by decide +kernel) rfl, tb_at 366 (by decide +kernel) rfl, by decide +kernel, by decide +kernel, by decide +kernel⟩
theorem mst_X10_mayFollow : Cond.static i_X10_mayFollow.1 ∈ tw_tbl := tb_at 367 (by decide +kernel) rfl
abbrev i_X10_areSounds : TMI := (yX10_areSounds, cX10_areSounds, 4, (some .boolean))
theorem gf_X5_26 : GF RX5 26 5 4 := ⟨RX5, TX5, 5, rfl, by decide, in_X5, tb_at 97 (by decide +kernel) rfl, rfl⟩
theorem sh_10 : shp[10]? = some (.inl (5, [some 11, some 28, some 29, some 30, none])) := by decide +kernel
abbrev i_X5_words : TMI := (yX5_words, cX5_words, 1, (some .int))
theorem gp_X5_26 : GP RX5 26 5 4 .int := ⟨RX5, TX5, 5, tyX5, rfl, by decide, in_X5, tb_at 97 (by decide +kernel) rfl, rfl, tyX5_ok, nmX5, rfl, by decide +kernel⟩
abbrev i_X5_addWord : TMI := (yX5_addWord, cX5_addWord, 1, none)
theorem gf_X5_16 : GF RX5 16 5 1 := ⟨RX5, TX5, 5, rfl, by decide, in_X5, tb_at 94 (by decide +kernel) rfl, rfl⟩
theorem sh_28 : shp[28]? = some (.inr (.inl 16)) := by decide +kernel
theorem gf_X5_11 : GF RX5 11 5 0 := ⟨RX5, TX5, 5, rfl, by decide, in_X5, tb_at 93 (by decide +kernel) rfl, rfl⟩
theorem sh_11 : shp[11]? = some (.inr (.inr (16, 12))) := by decide +kernel
theorem shr_11 : ∀ j, j < 16 → shp[12 + j]? = some (.inr (.inl 4)) := fun j hj => of_decide_eq_true (List.all_eq_true.mp (show (List.range 16).all (fun j => decide (shp[12 + j]? = some (.inr (.inl 4)))) = true by decide +kernel) j (List.mem_range.mpr hj))
abbrev i_X5_append : TMI := (yX5_append, cX5_append, 3, none)
theorem gf_X5_20 : GF RX5 20 5 2 := ⟨RX5, TX5, 5, rfl, by decide, in_X5, tb_at 95 (by decide +kernel) rfl, rfl⟩
theorem sh_29 : shp[29]? = some (.inr (.inl 8)) := by decide +kernel
theorem mc_X5_30 : MCW RX5 30 i_X5_append 2 := ⟨tb_at 384 (by decide +kernel) rfl, tb_at 42 (by decide +kernel) rfl, tb_at 381 (by decide +kernel) rfl, by decide +kernel, by decide +kernel, by decide +kernel⟩
theorem mv_X5_append : Cond.instanceMethod i_X5_append.1 ∈ tw_tbl ∧ Cond.selects i_X5_append.1.cls i_X5_append.1 i_X5_append.1 ∈ tw_tbl := ⟨tb_at 383 (by decide +kernel) rfl, tb_at 1 (by decide +kernel) rfl⟩
abbrev i_X5_addWay : TMI := (yX5_addWay, cX5_addWay, 7, none)
theorem mc_X10_112 : MCW RX10 112 i_X10_areSounds 4 := ⟨tb_at 365 (by decide +kernel) rfl, tb_at 39 (by decide +kernel) rfl, tb_at 363 (by decide +kernel) rfl, by decide +kernel, by decide +kernel, by decide +kernel⟩
theorem mst_X10_areSounds : Cond.static i_X10_areSounds.1 ∈ tw_tbl := tb_at 364 (by decide +kernel) rfl
theorem gf_X10_19 : GF RX10 19 10 1 := ⟨RX10, TX10, 9, rfl, by decide, in_X10, tb_at 267 (by decide +kernel) rfl, rfl⟩
theorem mc_X10_116 : MCW RX10 116 i_X5_words 0 := ⟨tb_at 372 (by decide +kernel) rfl, tb_at 42 (by decide +kernel) rfl, tb_at 369 (by decide +kernel) rfl, by decide +kernel, by decide +kernel, by decide +kernel⟩
theorem mv_X5_words : Cond.instanceMethod i_X5_words.1 ∈ tw_tbl ∧ Cond.selects i_X5_words.1.cls i_X5_words.1 i_X5_words.1 ∈ tw_tbl := ⟨tb_at 370 (by decide +kernel) rfl, tb_at 371 (by decide +kernel) rfl⟩
theorem mc_X10_119 : MCW RX10 119 i_X5_addWord 0 := ⟨tb_at 376 (by decide +kernel) rfl, tb_at 42 (by decide +kernel) rfl, tb_at 373 (by decide +kernel) rfl, by decide +kernel, by decide +kernel, by decide +kernel⟩
theorem mv_X5_addWord : Cond.instanceMethod i_X5_addWord.1 ∈ tw_tbl ∧ Cond.selects i_X5_addWord.1.cls i_X5_addWord.1 i_X5_addWord.1 ∈ tw_tbl := ⟨tb_at 374 (by decide +kernel) rfl, tb_at 375 (by decide +kernel) rfl⟩
theorem mc_X10_122 : MCW RX10 122 i_X5_addWay 5 := ⟨tb_at 380 (by decide +kernel) rfl, tb_at 42 (by decide +kernel) rfl, tb_at 377 (by decide +kernel) rfl, by decide +kernel, by decide +kernel, by decide +kernel⟩
theorem mv_X5_addWay : Cond.instanceMethod i_X5_addWay.1 ∈ tw_tbl ∧ Cond.selects i_X5_addWay.1.cls i_X5_addWay.1 i_X5_addWay.1 ∈ tw_tbl := ⟨tb_at 378 (by decide +kernel) rfl, tb_at 379 (by decide +kernel) rfl⟩
abbrev i_X10_word : TMI := (yX10_word, cX10_word, 6, (some .int))
abbrev i_X11_manyOf : TMI := (yX11_manyOf, cX11_manyOf, 5, (some .int))
theorem gf_X11_23 : GF RX11 23 11 6 := ⟨RX11, TX11, 32, rfl, by decide, in_X11, tb_at 751 (by decide +kernel) rfl, rfl⟩
theorem sh_191 : shp[191]? = some (.inr (.inl 16)) := by decide +kernel
theorem gf_X11_26 : GF RX11 26 11 7 := ⟨RX11, TX11, 32, rfl, by decide, in_X11, tb_at 752 (by decide +kernel) rfl, rfl⟩
theorem sh_192 : shp[192]? = some (.inr (.inl 64)) := by decide +kernel
abbrev i_X11_layWay : TMI := (yX11_layWay, cX11_layWay, 7, none)
theorem mc_X11_100 : MCW RX11 100 i_X11_manyOf 4 := ⟨tb_at 867 (by decide +kernel) rfl, tb_at 52 (by decide +kernel) rfl, tb_at 865 (by decide +kernel) rfl, by decide +kernel, by decide +kernel, by decide +kernel⟩
theorem mst_X11_manyOf : Cond.static i_X11_manyOf.1 ∈ tw_tbl := tb_at 866 (by decide +kernel) rfl
theorem gf_X11_104 : GF RX11 104 11 4 := ⟨RX11, TX11, 32, rfl, by decide, in_X11, tb_at 749 (by decide +kernel) rfl, rfl⟩
theorem mc_X11_107 : MCW RX11 107 i_X11_layWay 6 := ⟨tb_at 871 (by decide +kernel) rfl, tb_at 52 (by decide +kernel) rfl, tb_at 868 (by decide +kernel) rfl, by decide +kernel, by decide +kernel, by decide +kernel⟩
theorem mv_X11_layWay : Cond.instanceMethod i_X11_layWay.1 ∈ tw_tbl ∧ Cond.selects i_X11_layWay.1.cls i_X11_layWay.1 i_X11_layWay.1 ∈ tw_tbl := ⟨tb_at 870 (by decide +kernel) rfl, tb_at 21 (by decide +kernel) rfl⟩
theorem gf_X11_20 : GF RX11 20 11 5 := ⟨RX11, TX11, 32, rfl, by decide, in_X11, tb_at 750 (by decide +kernel) rfl, rfl⟩
theorem sh_190 : shp[190]? = some (.inr (.inl 8)) := by decide +kernel
theorem gp_X11_104 : GP RX11 104 11 4 .int := ⟨RX11, TX11, 32, tyX11, rfl, by decide, in_X11, tb_at 749 (by decide +kernel) rfl, rfl, tyX11_ok, nmX11, rfl, by decide +kernel⟩
abbrev i_X11_word : TMI := (yX11_word, cX11_word, 6, (some .int))
abbrev i_X10_isWord : TMI := (yX10_isWord, cX10_isWord, 2, (some .boolean))
abbrev i_X5_waysOf : TMI := (yX5_waysOf, cX5_waysOf, 2, (some .int))
theorem mc_X10_126 : MCW RX10 126 i_X10_isWord 1 := ⟨tb_at 392 (by decide +kernel) rfl, tb_at 39 (by decide +kernel) rfl, tb_at 389 (by decide +kernel) rfl, by decide +kernel, by decide +kernel, by decide +kernel⟩
theorem mv_X10_isWord : Cond.instanceMethod i_X10_isWord.1 ∈ tw_tbl ∧ Cond.selects i_X10_isWord.1.cls i_X10_isWord.1 i_X10_isWord.1 ∈ tw_tbl := ⟨tb_at 391 (by decide +kernel) rfl, tb_at 2 (by decide +kernel) rfl⟩
theorem mc_X10_129 : MCW RX10 129 i_X5_waysOf 1 := ⟨tb_at 396 (by decide +kernel) rfl, tb_at 42 (by decide +kernel) rfl, tb_at 393 (by decide +kernel) rfl, by decide +kernel, by decide +kernel, by decide +kernel⟩
theorem mv_X5_waysOf : Cond.instanceMethod i_X5_waysOf.1 ∈ tw_tbl ∧ Cond.selects i_X5_waysOf.1.cls i_X5_waysOf.1 i_X5_waysOf.1 ∈ tw_tbl := ⟨tb_at 394 (by decide +kernel) rfl, tb_at 395 (by decide +kernel) rfl⟩
abbrev i_X10_way : TMI := (yX10_way, cX10_way, 6, (some .int))
abbrev i_X11_isWord : TMI := (yX11_isWord, cX11_isWord, 2, (some .boolean))
theorem mc_X11_111 : MCW RX11 111 i_X11_isWord 1 := ⟨tb_at 879 (by decide +kernel) rfl, tb_at 52 (by decide +kernel) rfl, tb_at 876 (by decide +kernel) rfl, by decide +kernel, by decide +kernel, by decide +kernel⟩
theorem mv_X11_isWord : Cond.instanceMethod i_X11_isWord.1 ∈ tw_tbl ∧ Cond.selects i_X11_isWord.1.cls i_X11_isWord.1 i_X11_isWord.1 ∈ tw_tbl := ⟨tb_at 878 (by decide +kernel) rfl, tb_at 22 (by decide +kernel) rfl⟩
abbrev i_X11_way : TMI := (yX11_way, cX11_way, 7, (some .int))
abbrev i_X10_isWordOrEdge : TMI := (yX10_isWordOrEdge, cX10_isWordOrEdge, 2, (some .boolean))
theorem gf_X5_23 : GF RX5 23 5 3 := ⟨RX5, TX5, 5, rfl, by decide, in_X5, tb_at 96 (by decide +kernel) rfl, rfl⟩
theorem sh_30 : shp[30]? = some (.inr (.inr (9, 31))) := by decide +kernel
theorem shr_30 : ∀ j, j < 9 → shp[31 + j]? = some (.inr (.inl 9)) := fun j hj => of_decide_eq_true (List.all_eq_true.mp (show (List.range 9).all (fun j => decide (shp[31 + j]? = some (.inr (.inl 9)))) = true by decide +kernel) j (List.mem_range.mpr hj))
abbrev i_X5_grammarOf : TMI := (yX5_grammarOf, cX5_grammarOf, 3, (some .int))
abbrev i_X5_setGrammar : TMI := (yX5_setGrammar, cX5_setGrammar, 4, none)
theorem mc_X10_133 : MCW RX10 133 i_X10_isWordOrEdge 1 := ⟨tb_at 404 (by decide +kernel) rfl, tb_at 39 (by decide +kernel) rfl, tb_at 401 (by decide +kernel) rfl, by decide +kernel, by decide +kernel, by decide +kernel⟩
theorem mv_X10_isWordOrEdge : Cond.instanceMethod i_X10_isWordOrEdge.1 ∈ tw_tbl ∧ Cond.selects i_X10_isWordOrEdge.1.cls i_X10_isWordOrEdge.1 i_X10_isWordOrEdge.1 ∈ tw_tbl := ⟨tb_at 403 (by decide +kernel) rfl, tb_at 3 (by decide +kernel) rfl⟩
theorem mc_X10_136 : MCW RX10 136 i_X5_grammarOf 2 := ⟨tb_at 408 (by decide +kernel) rfl, tb_at 42 (by decide +kernel) rfl, tb_at 405 (by decide +kernel) rfl, by decide +kernel, by decide +kernel, by decide +kernel⟩
theorem mv_X5_grammarOf : Cond.instanceMethod i_X5_grammarOf.1 ∈ tw_tbl ∧ Cond.selects i_X5_grammarOf.1.cls i_X5_grammarOf.1 i_X5_grammarOf.1 ∈ tw_tbl := ⟨tb_at 406 (by decide +kernel) rfl, tb_at 407 (by decide +kernel) rfl⟩
theorem mc_X10_139 : MCW RX10 139 i_X5_setGrammar 3 := ⟨tb_at 412 (by decide +kernel) rfl, tb_at 42 (by decide +kernel) rfl, tb_at 409 (by decide +kernel) rfl, by decide +kernel, by decide +kernel, by decide +kernel⟩
theorem mv_X5_setGrammar : Cond.instanceMethod i_X5_setGrammar.1 ∈ tw_tbl ∧ Cond.selects i_X5_setGrammar.1.cls i_X5_setGrammar.1 i_X5_setGrammar.1 ∈ tw_tbl := ⟨tb_at 410 (by decide +kernel) rfl, tb_at 411 (by decide +kernel) rfl⟩
abbrev i_X10_grammar : TMI := (yX10_grammar, cX10_grammar, 5, (some .int))
theorem gf_X11_29 : GF RX11 29 11 8 := ⟨RX11, TX11, 32, rfl, by decide, in_X11, tb_at 753 (by decide +kernel) rfl, rfl⟩
theorem sh_193 : shp[193]? = some (.inr (.inl 81)) := by decide +kernel
abbrev i_X11_behind : TMI := (yX11_behind, cX11_behind, 3, (some .int))
theorem mc_X11_115 : MCW RX11 115 i_X11_behind 2 := ⟨tb_at 887 (by decide +kernel) rfl, tb_at 52 (by decide +kernel) rfl, tb_at 884 (by decide +kernel) rfl, by decide +kernel, by decide +kernel, by decide +kernel⟩
theorem mv_X11_behind : Cond.instanceMethod i_X11_behind.1 ∈ tw_tbl ∧ Cond.selects i_X11_behind.1.cls i_X11_behind.1 i_X11_behind.1 ∈ tw_tbl := ⟨tb_at 886 (by decide +kernel) rfl, tb_at 23 (by decide +kernel) rfl⟩
abbrev i_X11_grammar : TMI := (yX11_grammar, cX11_grammar, 5, (some .int))
theorem mc_X5_34 : MCW RX5 34 i_X5_grammarOf 2 := ⟨tb_at 408 (by decide +kernel) rfl, tb_at 42 (by decide +kernel) rfl, tb_at 432 (by decide +kernel) rfl, by decide +kernel, by decide +kernel, by decide +kernel⟩
theorem lc_X5_38 : Cond.constant RX5 38 1000000 ∈ tw_tbl := tb_at 433 (by decide +kernel) rfl
abbrev i_X5_joint : TMI := (yX5_joint, cX5_joint, 4, (some .int))
abbrev i_X5_lengthOf : TMI := (yX5_lengthOf, cX5_lengthOf, 3, (some .int))
abbrev i_X5_soundOf : TMI := (yX5_soundOf, cX5_soundOf, 4, (some .int))
abbrev i_X2_costAt : TMI := (yX2_costAt, cX2_costAt, 3, (some .int))
theorem gp_X7_9 : GP RX7 9 7 1 .int := ⟨RX7, TX7, 2, tyX7, rfl, by decide, in_X7, tb_at 142 (by decide +kernel) rfl, rfl, tyX7_ok, nmX7, rfl, by decide +kernel⟩
theorem sh_104 : shp[104]? = some (.inl (7, [some 105, none])) := by decide +kernel
abbrev i_X7_clear : TMI := (yX7_clear, cX7_clear, 1, none)
theorem gf_X7_9 : GF RX7 9 7 1 := ⟨RX7, TX7, 2, rfl, by decide, in_X7, tb_at 142 (by decide +kernel) rfl, rfl⟩
theorem gf_X7_21 : GF RX7 21 7 0 := ⟨RX7, TX7, 2, rfl, by decide, in_X7, tb_at 141 (by decide +kernel) rfl, rfl⟩
theorem sh_105 : shp[105]? = some (.inr (.inl 40)) := by decide +kernel
abbrev i_X7_add : TMI := (yX7_add, cX7_add, 2, none)
theorem gf_X8_15 : GF RX8 15 8 1 := ⟨RX8, TX8, 3, rfl, by decide, in_X8, tb_at 123 (by decide +kernel) rfl, rfl⟩
theorem sh_100 : shp[100]? = some (.inl (8, [some 101, some 102, some 103])) := by decide +kernel
theorem sh_102 : shp[102]? = some (.inr (.inl 41)) := by decide +kernel
abbrev i_X8_endAt : TMI := (yX8_endAt, cX8_endAt, 2, (some .int))
theorem gf_X8_9 : GF RX8 9 8 0 := ⟨RX8, TX8, 3, rfl, by decide, in_X8, tb_at 122 (by decide +kernel) rfl, rfl⟩
theorem lc_X8_21 : Cond.constant RX8 21 1000000 ∈ tw_tbl := tb_at 479 (by decide +kernel) rfl
theorem mm_X8_28 : Cond.methodLink RX8 28 Lib.Math.min.name ∈ tw_tbl ∧ Cond.static Lib.Math.min.name ∈ tw_tbl ∧ Cond.initialized "java/lang/Math" ∈ tw_tbl ∧ Cond.code Lib.Math.min.name Lib.Math.min.code 2 (some .int) ∈ tw_tbl := ⟨tb_at 480 (by decide +kernel) rfl, tb_at 439 (by decide +kernel) rfl, tb_at 46 (by decide +kernel) rfl, tb_at 440 (by decide +kernel) rfl⟩
theorem sh_101 : shp[101]? = some (.inr (.inl 41)) := by decide +kernel
abbrev i_X8_start : TMI := (yX8_start, cX8_start, 3, none)
theorem gf_X6_40 : GF RX6 40 6 5 := ⟨RX6, TX6, 7, rfl, by decide, in_X6, tb_at 154 (by decide +kernel) rfl, rfl⟩
abbrev i_X6_cheapest : TMI := (yX6_cheapest, cX6_cheapest, 1, (some .int))
abbrev i_X11_onAt : TMI := (yX11_onAt, cX11_onAt, 3, (some .int))
abbrev i_X11_lesser : TMI := (yX11_lesser, cX11_lesser, 2, (some .int))
abbrev i_X11_costOf : TMI := (yX11_costOf, cX11_costOf, 3, (some .int))
theorem gf_X11_71 : GF RX11 71 11 25 := ⟨RX11, TX11, 32, rfl, by decide, in_X11, tb_at 770 (by decide +kernel) rfl, rfl⟩
theorem sh_204 : shp[204]? = some (.inr (.inl 369)) := by decide +kernel
abbrev i_X11_restAt : TMI := (yX11_restAt, cX11_restAt, 3, (some .int))
theorem gf_X6_35 : GF RX6 35 6 4 := ⟨RX6, TX6, 7, rfl, by decide, in_X6, tb_at 153 (by decide +kernel) rfl, rfl⟩
abbrev i_X6_row : TMI := (yX6_row, cX6_row, 1, (some (.object "SoundWords$Row")))
abbrev i_X7_size : TMI := (yX7_size, cX7_size, 1, (some .int))
abbrev i_X7_at : TMI := (yX7_at, cX7_at, 2, (some .int))
theorem sh_106 : shp[106]? = some (.inl (7, [some 107, none])) := by decide +kernel
theorem sh_107 : shp[107]? = some (.inr (.inl 12)) := by decide +kernel
theorem gf_X10_35 : GF RX10 35 10 3 := ⟨RX10, TX10, 9, rfl, by decide, in_X10, tb_at 269 (by decide +kernel) rfl, rfl⟩
theorem mc_X10_153 : MCW RX10 153 i_X7_size 0 := ⟨tb_at 518 (by decide +kernel) rfl, tb_at 45 (by decide +kernel) rfl, tb_at 515 (by decide +kernel) rfl, by decide +kernel, by decide +kernel, by decide +kernel⟩
theorem mv_X7_size : Cond.instanceMethod i_X7_size.1 ∈ tw_tbl ∧ Cond.selects i_X7_size.1.cls i_X7_size.1 i_X7_size.1 ∈ tw_tbl := ⟨tb_at 516 (by decide +kernel) rfl, tb_at 517 (by decide +kernel) rfl⟩
theorem mc_X10_167 : MCW RX10 167 i_X7_add 1 := ⟨tb_at 502 (by decide +kernel) rfl, tb_at 45 (by decide +kernel) rfl, tb_at 541 (by decide +kernel) rfl, by decide +kernel, by decide +kernel, by decide +kernel⟩
theorem mv_X7_add : Cond.instanceMethod i_X7_add.1 ∈ tw_tbl ∧ Cond.selects i_X7_add.1.cls i_X7_add.1 i_X7_add.1 ∈ tw_tbl := ⟨tb_at 500 (by decide +kernel) rfl, tb_at 501 (by decide +kernel) rfl⟩
abbrev i_X10_say : TMI := (yX10_say, cX10_say, 2, (some .int))
theorem gf_X11_160 : GF RX11 160 11 9 := ⟨RX11, TX11, 32, rfl, by decide, in_X11, tb_at 754 (by decide +kernel) rfl, rfl⟩
theorem gf_X11_32 : GF RX11 32 11 10 := ⟨RX11, TX11, 32, rfl, by decide, in_X11, tb_at 755 (by decide +kernel) rfl, rfl⟩
theorem sh_194 : shp[194]? = some (.inr (.inl 12)) := by decide +kernel
theorem gp_X11_160 : GP RX11 160 11 9 .int := ⟨RX11, TX11, 32, tyX11, rfl, by decide, in_X11, tb_at 754 (by decide +kernel) rfl, rfl, tyX11_ok, nmX11, rfl, by decide +kernel⟩
abbrev i_X11_say : TMI := (yX11_say, cX11_say, 2, (some .int))
theorem mc_X10_168 : MCW RX10 168 i_X7_clear 0 := ⟨tb_at 462 (by decide +kernel) rfl, tb_at 45 (by decide +kernel) rfl, tb_at 546 (by decide +kernel) rfl, by decide +kernel, by decide +kernel, by decide +kernel⟩
theorem mv_X7_clear : Cond.instanceMethod i_X7_clear.1 ∈ tw_tbl ∧ Cond.selects i_X7_clear.1.cls i_X7_clear.1 i_X7_clear.1 ∈ tw_tbl := ⟨tb_at 460 (by decide +kernel) rfl, tb_at 461 (by decide +kernel) rfl⟩
abbrev i_X10_unsay : TMI := (yX10_unsay, cX10_unsay, 2, (some .int))
abbrev i_X11_unsay : TMI := (yX11_unsay, cX11_unsay, 2, (some .int))
theorem gf_X3_11 : GF RX3 11 3 0 := ⟨RX3, TX3, 6, rfl, by decide, in_X3, tb_at 180 (by decide +kernel) rfl, rfl⟩
theorem sh_109 : shp[109]? = some (.inr (.inl 96)) := by decide +kernel
abbrev i_X3_hasSoundBehind : TMI := (yX3_hasSoundBehind, cX3_hasSoundBehind, 2, (some .boolean))
theorem gf_X3_20 : GF RX3 20 3 2 := ⟨RX3, TX3, 6, rfl, by decide, in_X3, tb_at 182 (by decide +kernel) rfl, rfl⟩
theorem sh_111 : shp[111]? = some (.inr (.inr (41, 112))) := by decide +kernel
theorem shr_111 : ∀ j, j < 41 → shp[112 + j]? = some (.inr (.inl 96)) := fun j hj => of_decide_eq_true (List.all_eq_true.mp (show (List.range 41).all (fun j => decide (shp[112 + j]? = some (.inr (.inl 96)))) = true by decide +kernel) j (List.mem_range.mpr hj))
abbrev i_X3_firstSlot : TMI := (yX3_firstSlot, cX3_firstSlot, 5, (some .int))
theorem mc_X3_104 : MCW RX3 104 i_X3_hasSoundBehind 1 := ⟨tb_at 579 (by decide +kernel) rfl, tb_at 47 (by decide +kernel) rfl, tb_at 576 (by decide +kernel) rfl, by decide +kernel, by decide +kernel, by decide +kernel⟩
theorem mv_X3_hasSoundBehind : Cond.instanceMethod i_X3_hasSoundBehind.1 ∈ tw_tbl ∧ Cond.selects i_X3_hasSoundBehind.1.cls i_X3_hasSoundBehind.1 i_X3_hasSoundBehind.1 ∈ tw_tbl := ⟨tb_at 578 (by decide +kernel) rfl, tb_at 14 (by decide +kernel) rfl⟩
theorem gf_X3_26 : GF RX3 26 3 4 := ⟨RX3, TX3, 6, rfl, by decide, in_X3, tb_at 184 (by decide +kernel) rfl, rfl⟩
theorem gf_X3_15 : GF RX3 15 3 1 := ⟨RX3, TX3, 6, rfl, by decide, in_X3, tb_at 181 (by decide +kernel) rfl, rfl⟩
theorem sh_110 : shp[110]? = some (.inr (.inl 12)) := by decide +kernel
theorem mc_X3_64 : MCW RX3 64 i_X3_firstSlot 2 := ⟨tb_at 583 (by decide +kernel) rfl, tb_at 47 (by decide +kernel) rfl, tb_at 580 (by decide +kernel) rfl, by decide +kernel, by decide +kernel, by decide +kernel⟩
theorem mv_X3_firstSlot : Cond.instanceMethod i_X3_firstSlot.1 ∈ tw_tbl ∧ Cond.selects i_X3_firstSlot.1.cls i_X3_firstSlot.1 i_X3_firstSlot.1 ∈ tw_tbl := ⟨tb_at 582 (by decide +kernel) rfl, tb_at 15 (by decide +kernel) rfl⟩
theorem lc_X3_45 : Cond.constant RX3 45 1000000 ∈ tw_tbl := tb_at 557 (by decide +kernel) rfl
abbrev i_X3_goOn : TMI := (yX3_goOn, cX3_goOn, 7, (some .int))
theorem mc_X3_101 : MCW RX3 101 i_X2_stayCost 0 := ⟨tb_at 354 (by decide +kernel) rfl, tb_at 40 (by decide +kernel) rfl, tb_at 588 (by decide +kernel) rfl, by decide +kernel, by decide +kernel, by decide +kernel⟩
abbrev i_X3_stayOn : TMI := (yX3_stayOn, cX3_stayOn, 4, (some .int))
abbrev i_X11_aheadAt : TMI := (yX11_aheadAt, cX11_aheadAt, 4, (some .int))
theorem gf_X3_30 : GF RX3 30 3 5 := ⟨RX3, TX3, 6, rfl, by decide, in_X3, tb_at 185 (by decide +kernel) rfl, rfl⟩
abbrev i_X3_stands : TMI := (yX3_stands, cX3_stands, 1, (some .boolean))
theorem gf_X3_23 : GF RX3 23 3 3 := ⟨RX3, TX3, 6, rfl, by decide, in_X3, tb_at 183 (by decide +kernel) rfl, rfl⟩
theorem sh_153 : shp[153]? = some (.inr (.inl 40)) := by decide +kernel
abbrev i_X3_wayAt : TMI := (yX3_wayAt, cX3_wayAt, 2, (some .int))
abbrev i_X3_placeAt : TMI := (yX3_placeAt, cX3_placeAt, 2, (some .int))
abbrev i_X3_soundAt : TMI := (yX3_soundAt, cX3_soundAt, 2, (some .int))
theorem mc_X10_172 : MCW RX10 172 i_X3_stands 0 := ⟨tb_at 602 (by decide +kernel) rfl, tb_at 47 (by decide +kernel) rfl, tb_at 599 (by decide +kernel) rfl, by decide +kernel, by decide +kernel, by decide +kernel⟩
theorem mv_X3_stands : Cond.instanceMethod i_X3_stands.1 ∈ tw_tbl ∧ Cond.selects i_X3_stands.1.cls i_X3_stands.1 i_X3_stands.1 ∈ tw_tbl := ⟨tb_at 600 (by decide +kernel) rfl, tb_at 601 (by decide +kernel) rfl⟩
theorem mc_X10_182 : MCW RX10 182 i_X3_wayAt 1 := ⟨tb_at 614 (by decide +kernel) rfl, tb_at 47 (by decide +kernel) rfl, tb_at 611 (by decide +kernel) rfl, by decide +kernel, by decide +kernel, by decide +kernel⟩
theorem mv_X3_wayAt : Cond.instanceMethod i_X3_wayAt.1 ∈ tw_tbl ∧ Cond.selects i_X3_wayAt.1.cls i_X3_wayAt.1 i_X3_wayAt.1 ∈ tw_tbl := ⟨tb_at 612 (by decide +kernel) rfl, tb_at 613 (by decide +kernel) rfl⟩
theorem mc_X10_179 : MCW RX10 179 i_X3_placeAt 1 := ⟨tb_at 610 (by decide +kernel) rfl, tb_at 47 (by decide +kernel) rfl, tb_at 607 (by decide +kernel) rfl, by decide +kernel, by decide +kernel, by decide +kernel⟩
theorem mv_X3_placeAt : Cond.instanceMethod i_X3_placeAt.1 ∈ tw_tbl ∧ Cond.selects i_X3_placeAt.1.cls i_X3_placeAt.1 i_X3_placeAt.1 ∈ tw_tbl := ⟨tb_at 608 (by decide +kernel) rfl, tb_at 609 (by decide +kernel) rfl⟩
theorem mc_X10_176 : MCW RX10 176 i_X3_soundAt 1 := ⟨tb_at 606 (by decide +kernel) rfl, tb_at 47 (by decide +kernel) rfl, tb_at 603 (by decide +kernel) rfl, by decide +kernel, by decide +kernel, by decide +kernel⟩
theorem mv_X3_soundAt : Cond.instanceMethod i_X3_soundAt.1 ∈ tw_tbl ∧ Cond.selects i_X3_soundAt.1.cls i_X3_soundAt.1 i_X3_soundAt.1 ∈ tw_tbl := ⟨tb_at 604 (by decide +kernel) rfl, tb_at 605 (by decide +kernel) rfl⟩
abbrev i_X10_laid : TMI := (yX10_laid, cX10_laid, 3, (some .int))
theorem gf_X11_96 : GF RX11 96 11 11 := ⟨RX11, TX11, 32, rfl, by decide, in_X11, tb_at 756 (by decide +kernel) rfl, rfl⟩
theorem gf_X11_41 : GF RX11 41 11 14 := ⟨RX11, TX11, 32, rfl, by decide, in_X11, tb_at 759 (by decide +kernel) rfl, rfl⟩
theorem sh_197 : shp[197]? = some (.inr (.inl 40)) := by decide +kernel
theorem gf_X11_38 : GF RX11 38 11 13 := ⟨RX11, TX11, 32, rfl, by decide, in_X11, tb_at 758 (by decide +kernel) rfl, rfl⟩
theorem sh_196 : shp[196]? = some (.inr (.inl 40)) := by decide +kernel
theorem gf_X11_35 : GF RX11 35 11 12 := ⟨RX11, TX11, 32, rfl, by decide, in_X11, tb_at 757 (by decide +kernel) rfl, rfl⟩
theorem sh_195 : shp[195]? = some (.inr (.inl 40)) := by decide +kernel
abbrev i_X11_laid : TMI := (yX11_laid, cX11_laid, 3, (some .int))
abbrev i_X2_markOf : TMI := (yX2_markOf, cX2_markOf, 2, (some .int))
theorem gf_X4_23 : GF RX4 23 4 3 := ⟨RX4, TX4, 4, rfl, by decide, in_X4, tb_at 219 (by decide +kernel) rfl, rfl⟩
theorem sh_156 : shp[156]? = some (.inl (4, [some 157, some 164, none, none])) := by decide +kernel
abbrev i_X4_kept : TMI := (yX4_kept, cX4_kept, 1, (some .int))
theorem gf_X4_11 : GF RX4 11 4 0 := ⟨RX4, TX4, 4, rfl, by decide, in_X4, tb_at 216 (by decide +kernel) rfl, rfl⟩
theorem sh_157 : shp[157]? = some (.inr (.inr (6, 158))) := by decide +kernel
theorem shr_157 : ∀ j, j < 6 → shp[158 + j]? = some (.inr (.inl 8)) := fun j hj => of_decide_eq_true (List.all_eq_true.mp (show (List.range 6).all (fun j => decide (shp[158 + j]? = some (.inr (.inl 8)))) = true by decide +kernel) j (List.mem_range.mpr hj))
abbrev i_X4_countOf : TMI := (yX4_countOf, cX4_countOf, 3, (some .int))
theorem gf_X10_56 : GF RX10 56 10 6 := ⟨RX10, TX10, 9, rfl, by decide, in_X10, tb_at 272 (by decide +kernel) rfl, rfl⟩
theorem mc_X10_199 : MCW RX10 199 i_X4_countOf 2 := ⟨tb_at 661 (by decide +kernel) rfl, tb_at 49 (by decide +kernel) rfl, tb_at 658 (by decide +kernel) rfl, by decide +kernel, by decide +kernel, by decide +kernel⟩
theorem mv_X4_countOf : Cond.instanceMethod i_X4_countOf.1 ∈ tw_tbl ∧ Cond.selects i_X4_countOf.1.cls i_X4_countOf.1 i_X4_countOf.1 ∈ tw_tbl := ⟨tb_at 659 (by decide +kernel) rfl, tb_at 660 (by decide +kernel) rfl⟩
abbrev i_X10_taught : TMI := (yX10_taught, cX10_taught, 3, (some .int))
theorem gf_X11_44 : GF RX11 44 11 15 := ⟨RX11, TX11, 32, rfl, by decide, in_X11, tb_at 760 (by decide +kernel) rfl, rfl⟩
theorem sh_198 : shp[198]? = some (.inr (.inl 48)) := by decide +kernel
abbrev i_X11_taught : TMI := (yX11_taught, cX11_taught, 3, (some .int))
theorem sh_182 : shp[182]? = some (.inl (8, [some 183, some 184, some 185])) := by decide +kernel
theorem sh_183 : shp[183]? = some (.inr (.inl 41)) := by decide +kernel
theorem sh_184 : shp[184]? = some (.inr (.inl 41)) := by decide +kernel
theorem gf_X9_22 : GF RX9 22 9 2 := ⟨RX9, TX9, 4, rfl, by decide, in_X9, tb_at 239 (by decide +kernel) rfl, rfl⟩
theorem sh_181 : shp[181]? = some (.inl (9, [some 182, none, none, none])) := by decide +kernel
theorem gf_X9_18 : GF RX9 18 9 1 := ⟨RX9, TX9, 4, rfl, by decide, in_X9, tb_at 238 (by decide +kernel) rfl, rfl⟩
theorem gf_X9_25 : GF RX9 25 9 3 := ⟨RX9, TX9, 4, rfl, by decide, in_X9, tb_at 240 (by decide +kernel) rfl, rfl⟩
abbrev i_X9_isCheaper : TMI := (yX9_isCheaper, cX9_isCheaper, 3, (some .boolean))
abbrev i_X9_price : TMI := (yX9_price, cX9_price, 1, (some .int))
abbrev i_X9_end : TMI := (yX9_end, cX9_end, 1, (some .int))
abbrev i_X9_begin : TMI := (yX9_begin, cX9_begin, 1, (some .int))
theorem gp_X0_9 : GP RX0 9 0 0 .int := ⟨RX0, TX0, 3, tyX0, rfl, by decide, in_X0, tb_at 256 (by decide +kernel) rfl, rfl, tyX0_ok, nmX0, rfl, by decide +kernel⟩
theorem sh_186 : shp[186]? = some (.inl (0, [none, none, none])) := by decide +kernel
theorem gp_X0_15 : GP RX0 15 0 1 .int := ⟨RX0, TX0, 3, tyX0, rfl, by decide, in_X0, tb_at 257 (by decide +kernel) rfl, rfl, tyX0_ok, nmX0, rfl, by decide +kernel⟩
theorem gp_X0_18 : GP RX0 18 0 2 .int := ⟨RX0, TX0, 3, tyX0, rfl, by decide, in_X0, tb_at 258 (by decide +kernel) rfl, rfl, tyX0_ok, nmX0, rfl, by decide +kernel⟩
abbrev i_X0_set : TMI := (yX0_set, cX0_set, 4, none)
theorem gf_X10_70 : GF RX10 70 10 8 := ⟨RX10, TX10, 9, rfl, by decide, in_X10, tb_at 274 (by decide +kernel) rfl, rfl⟩
theorem mc_X10_217 : MCW RX10 217 i_X0_set 3 := ⟨tb_at 716 (by decide +kernel) rfl, tb_at 51 (by decide +kernel) rfl, tb_at 713 (by decide +kernel) rfl, by decide +kernel, by decide +kernel, by decide +kernel⟩
theorem mv_X0_set : Cond.instanceMethod i_X0_set.1 ∈ tw_tbl ∧ Cond.selects i_X0_set.1.cls i_X0_set.1 i_X0_set.1 ∈ tw_tbl := ⟨tb_at 714 (by decide +kernel) rfl, tb_at 715 (by decide +kernel) rfl⟩
abbrev i_X10_ears : TMI := (yX10_ears, cX10_ears, 4, (some .int))
theorem gp_X11_53 : GP RX11 53 11 19 .int := ⟨RX11, TX11, 32, tyX11, rfl, by decide, in_X11, tb_at 764 (by decide +kernel) rfl, rfl, tyX11_ok, nmX11, rfl, by decide +kernel⟩
theorem gp_X11_56 : GP RX11 56 11 20 .int := ⟨RX11, TX11, 32, tyX11, rfl, by decide, in_X11, tb_at 765 (by decide +kernel) rfl, rfl, tyX11_ok, nmX11, rfl, by decide +kernel⟩
theorem gp_X11_59 : GP RX11 59 11 21 .int := ⟨RX11, TX11, 32, tyX11, rfl, by decide, in_X11, tb_at 766 (by decide +kernel) rfl, rfl, tyX11_ok, nmX11, rfl, by decide +kernel⟩
abbrev i_X11_ears : TMI := (yX11_ears, cX11_ears, 4, (some .int))
theorem mc_X0_31 : MCW RX0 31 i_X2_markOf 1 := ⟨tb_at 639 (by decide +kernel) rfl, tb_at 40 (by decide +kernel) rfl, tb_at 730 (by decide +kernel) rfl, by decide +kernel, by decide +kernel, by decide +kernel⟩
theorem mv_X2_markOf : Cond.instanceMethod i_X2_markOf.1 ∈ tw_tbl ∧ Cond.selects i_X2_markOf.1.cls i_X2_markOf.1 i_X2_markOf.1 ∈ tw_tbl := ⟨tb_at 637 (by decide +kernel) rfl, tb_at 638 (by decide +kernel) rfl⟩
theorem gf_X0_9 : GF RX0 9 0 0 := ⟨RX0, TX0, 3, rfl, by decide, in_X0, tb_at 256 (by decide +kernel) rfl, rfl⟩
abbrev i_X0_isLoud : TMI := (yX0_isLoud, cX0_isLoud, 3, (some .boolean))
theorem mc_X10_193 : MCW RX10 193 i_X4_kept 0 := ⟨tb_at 649 (by decide +kernel) rfl, tb_at 49 (by decide +kernel) rfl, tb_at 646 (by decide +kernel) rfl, by decide +kernel, by decide +kernel, by decide +kernel⟩
theorem mv_X4_kept : Cond.instanceMethod i_X4_kept.1 ∈ tw_tbl ∧ Cond.selects i_X4_kept.1.cls i_X4_kept.1 i_X4_kept.1 ∈ tw_tbl := ⟨tb_at 647 (by decide +kernel) rfl, tb_at 648 (by decide +kernel) rfl⟩
abbrev i_X10_count : TMI := (yX10_count, cX10_count, 2, (some .int))
theorem gf_X11_179 : GF RX11 179 11 16 := ⟨RX11, TX11, 32, rfl, by decide, in_X11, tb_at 761 (by decide +kernel) rfl, rfl⟩
abbrev i_X11_count : TMI := (yX11_count, cX11_count, 2, (some .int))
abbrev i_J7_fill_53178 : TMI := (yJ7_fill_53178, cJ7_fill_53178, 4, none)
abbrev i_X6_cheapestBehind : TMI := (yX6_cheapestBehind, cX6_cheapestBehind, 7, (some .int))
theorem lc_X6_39 : Cond.constant RX6 39 1000000 ∈ tw_tbl := tb_at 148 (by decide +kernel) rfl
theorem mc_X6_72 : MCW RX6 72 i_X5_words 0 := ⟨tb_at 372 (by decide +kernel) rfl, tb_at 42 (by decide +kernel) rfl, tb_at 427 (by decide +kernel) rfl, by decide +kernel, by decide +kernel, by decide +kernel⟩
theorem mc_X6_77 : MCW RX6 77 i_X5_joint 2 := ⟨tb_at 431 (by decide +kernel) rfl, tb_at 42 (by decide +kernel) rfl, tb_at 428 (by decide +kernel) rfl, by decide +kernel, by decide +kernel, by decide +kernel⟩
theorem mv_X5_joint : Cond.instanceMethod i_X5_joint.1 ∈ tw_tbl ∧ Cond.selects i_X5_joint.1.cls i_X5_joint.1 i_X5_joint.1 ∈ tw_tbl := ⟨tb_at 429 (by decide +kernel) rfl, tb_at 430 (by decide +kernel) rfl⟩
theorem gf_X6_11 : GF RX6 11 6 0 := ⟨RX6, TX6, 7, rfl, by decide, in_X6, tb_at 149 (by decide +kernel) rfl, rfl⟩
theorem sh_41 : shp[41]? = some (.inr (.inr (40, 42))) := by decide +kernel
theorem shr_41 : ∀ j, j < 40 → shp[42 + j]? = some (.inr (.inl 8)) := fun j hj => of_decide_eq_true (List.all_eq_true.mp (show (List.range 40).all (fun j => decide (shp[42 + j]? = some (.inr (.inl 8)))) = true by decide +kernel) j (List.mem_range.mpr hj))
theorem mm_X6_81 : Cond.methodLink RX6 81 Lib.Math.min.name ∈ tw_tbl ∧ Cond.static Lib.Math.min.name ∈ tw_tbl ∧ Cond.initialized "java/lang/Math" ∈ tw_tbl ∧ Cond.code Lib.Math.min.name Lib.Math.min.code 2 (some .int) ∈ tw_tbl := ⟨tb_at 438 (by decide +kernel) rfl, tb_at 439 (by decide +kernel) rfl, tb_at 46 (by decide +kernel) rfl, tb_at 440 (by decide +kernel) rfl⟩
abbrev i_X6_stepBack : TMI := (yX6_stepBack, cX6_stepBack, 12, (some .int))
theorem gf_X6_16 : GF RX6 16 6 1 := ⟨RX6, TX6, 7, rfl, by decide, in_X6, tb_at 150 (by decide +kernel) rfl, rfl⟩
theorem sh_82 : shp[82]? = some (.inr (.inr (16, 83))) := by decide +kernel
theorem shr_82 : ∀ j, j < 16 → shp[83 + j]? = some (.inr (.inl 4)) := fun j hj => of_decide_eq_true (List.all_eq_true.mp (show (List.range 16).all (fun j => decide (shp[83 + j]? = some (.inr (.inl 4)))) = true by decide +kernel) j (List.mem_range.mpr hj))
theorem mc_X6_99 : MCW RX6 99 i_X5_lengthOf 2 := ⟨tb_at 449 (by decide +kernel) rfl, tb_at 42 (by decide +kernel) rfl, tb_at 446 (by decide +kernel) rfl, by decide +kernel, by decide +kernel, by decide +kernel⟩
theorem mv_X5_lengthOf : Cond.instanceMethod i_X5_lengthOf.1 ∈ tw_tbl ∧ Cond.selects i_X5_lengthOf.1.cls i_X5_lengthOf.1 i_X5_lengthOf.1 ∈ tw_tbl := ⟨tb_at 447 (by decide +kernel) rfl, tb_at 448 (by decide +kernel) rfl⟩
theorem mc_X6_102 : MCW RX6 102 i_X2_stayCost 0 := ⟨tb_at 354 (by decide +kernel) rfl, tb_at 40 (by decide +kernel) rfl, tb_at 450 (by decide +kernel) rfl, by decide +kernel, by decide +kernel, by decide +kernel⟩
theorem mc_X6_105 : MCW RX6 105 i_X5_soundOf 3 := ⟨tb_at 454 (by decide +kernel) rfl, tb_at 42 (by decide +kernel) rfl, tb_at 451 (by decide +kernel) rfl, by decide +kernel, by decide +kernel, by decide +kernel⟩
theorem mv_X5_soundOf : Cond.instanceMethod i_X5_soundOf.1 ∈ tw_tbl ∧ Cond.selects i_X5_soundOf.1.cls i_X5_soundOf.1 i_X5_soundOf.1 ∈ tw_tbl := ⟨tb_at 452 (by decide +kernel) rfl, tb_at 453 (by decide +kernel) rfl⟩
theorem mc_X6_109 : MCW RX6 109 i_X2_costAt 2 := ⟨tb_at 458 (by decide +kernel) rfl, tb_at 40 (by decide +kernel) rfl, tb_at 455 (by decide +kernel) rfl, by decide +kernel, by decide +kernel, by decide +kernel⟩
theorem mv_X2_costAt : Cond.instanceMethod i_X2_costAt.1 ∈ tw_tbl ∧ Cond.selects i_X2_costAt.1.cls i_X2_costAt.1 i_X2_costAt.1 ∈ tw_tbl := ⟨tb_at 456 (by decide +kernel) rfl, tb_at 457 (by decide +kernel) rfl⟩
abbrev i_X6_lookAhead : TMI := (yX6_lookAhead, cX6_lookAhead, 8, none)
theorem mc_X6_55 : MCW RX6 55 i_X2_frames 0 := ⟨tb_at 307 (by decide +kernel) rfl, tb_at 40 (by decide +kernel) rfl, tb_at 426 (by decide +kernel) rfl, by decide +kernel, by decide +kernel, by decide +kernel⟩
theorem mc_X6_86 : MCW RX6 86 i_J7_fill_53178 2 := ⟨tb_at 71 (by decide +kernel) rfl, tb_at 41 (by decide +kernel) rfl, tb_at 425 (by decide +kernel) rfl, by decide +kernel, by decide +kernel, by decide +kernel⟩
theorem mst_J7_fill_53178 : Cond.static i_J7_fill_53178.1 ∈ tw_tbl := tb_at 70 (by decide +kernel) rfl
theorem mc_X6_61 : MCW RX6 61 i_X6_cheapestBehind 4 := ⟨tb_at 437 (by decide +kernel) rfl, tb_at 43 (by decide +kernel) rfl, tb_at 434 (by decide +kernel) rfl, by decide +kernel, by decide +kernel, by decide +kernel⟩
theorem mv_X6_cheapestBehind : Cond.instanceMethod i_X6_cheapestBehind.1 ∈ tw_tbl ∧ Cond.selects i_X6_cheapestBehind.1.cls i_X6_cheapestBehind.1 i_X6_cheapestBehind.1 ∈ tw_tbl := ⟨tb_at 436 (by decide +kernel) rfl, tb_at 5 (by decide +kernel) rfl⟩
theorem mc_X6_92 : MCW RX6 92 i_X5_waysOf 1 := ⟨tb_at 396 (by decide +kernel) rfl, tb_at 42 (by decide +kernel) rfl, tb_at 441 (by decide +kernel) rfl, by decide +kernel, by decide +kernel, by decide +kernel⟩
theorem mc_X6_95 : MCW RX6 95 i_X6_stepBack 6 := ⟨tb_at 445 (by decide +kernel) rfl, tb_at 43 (by decide +kernel) rfl, tb_at 442 (by decide +kernel) rfl, by decide +kernel, by decide +kernel, by decide +kernel⟩
theorem mv_X6_stepBack : Cond.instanceMethod i_X6_stepBack.1 ∈ tw_tbl ∧ Cond.selects i_X6_stepBack.1.cls i_X6_stepBack.1 i_X6_stepBack.1 ∈ tw_tbl := ⟨tb_at 444 (by decide +kernel) rfl, tb_at 6 (by decide +kernel) rfl⟩
abbrev i_X6_firstThatLeadsOn : TMI := (yX6_firstThatLeadsOn, cX6_firstThatLeadsOn, 6, (some .int))
theorem gf_X6_19 : GF RX6 19 6 2 := ⟨RX6, TX6, 7, rfl, by decide, in_X6, tb_at 151 (by decide +kernel) rfl, rfl⟩
theorem sh_99 : shp[99]? = some (.inr (.inl 41)) := by decide +kernel
abbrev i_X8_step : TMI := (yX8_step, cX8_step, 9, none)
theorem mc_X8_40 : MCW RX8 40 i_X5_lengthOf 2 := ⟨tb_at 449 (by decide +kernel) rfl, tb_at 42 (by decide +kernel) rfl, tb_at 487 (by decide +kernel) rfl, by decide +kernel, by decide +kernel, by decide +kernel⟩
theorem gf_X8_18 : GF RX8 18 8 2 := ⟨RX8, TX8, 3, rfl, by decide, in_X8, tb_at 124 (by decide +kernel) rfl, rfl⟩
theorem sh_103 : shp[103]? = some (.inr (.inl 4)) := by decide +kernel
theorem mc_X8_47 : MCW RX8 47 i_X2_stayCost 0 := ⟨tb_at 354 (by decide +kernel) rfl, tb_at 40 (by decide +kernel) rfl, tb_at 492 (by decide +kernel) rfl, by decide +kernel, by decide +kernel, by decide +kernel⟩
theorem mc_X8_53 : MCW RX8 53 i_X5_soundOf 3 := ⟨tb_at 454 (by decide +kernel) rfl, tb_at 42 (by decide +kernel) rfl, tb_at 493 (by decide +kernel) rfl, by decide +kernel, by decide +kernel, by decide +kernel⟩
theorem mc_X8_57 : MCW RX8 57 i_X2_costAt 2 := ⟨tb_at 458 (by decide +kernel) rfl, tb_at 40 (by decide +kernel) rfl, tb_at 494 (by decide +kernel) rfl, by decide +kernel, by decide +kernel, by decide +kernel⟩
abbrev i_X8_run : TMI := (yX8_run, cX8_run, 9, none)
theorem mc_X8_22 : MCW RX8 22 i_J7_fill_53178 2 := ⟨tb_at 71 (by decide +kernel) rfl, tb_at 41 (by decide +kernel) rfl, tb_at 485 (by decide +kernel) rfl, by decide +kernel, by decide +kernel, by decide +kernel⟩
theorem mc_X8_34 : MCW RX8 34 i_X5_waysOf 1 := ⟨tb_at 396 (by decide +kernel) rfl, tb_at 42 (by decide +kernel) rfl, tb_at 486 (by decide +kernel) rfl, by decide +kernel, by decide +kernel, by decide +kernel⟩
theorem mc_X8_43 : MCW RX8 43 i_X8_step 5 := ⟨tb_at 491 (by decide +kernel) rfl, tb_at 44 (by decide +kernel) rfl, tb_at 488 (by decide +kernel) rfl, by decide +kernel, by decide +kernel, by decide +kernel⟩
theorem mv_X8_step : Cond.instanceMethod i_X8_step.1 ∈ tw_tbl ∧ Cond.selects i_X8_step.1.cls i_X8_step.1 i_X8_step.1 ∈ tw_tbl := ⟨tb_at 490 (by decide +kernel) rfl, tb_at 10 (by decide +kernel) rfl⟩
abbrev i_X6_append : TMI := (yX6_append, cX6_append, 7, none)
theorem gf_X6_26 : GF RX6 26 6 3 := ⟨RX6, TX6, 7, rfl, by decide, in_X6, tb_at 152 (by decide +kernel) rfl, rfl⟩
theorem mc_X6_124 : MCW RX6 124 i_X8_run 5 := ⟨tb_at 484 (by decide +kernel) rfl, tb_at 44 (by decide +kernel) rfl, tb_at 481 (by decide +kernel) rfl, by decide +kernel, by decide +kernel, by decide +kernel⟩
theorem mv_X8_run : Cond.instanceMethod i_X8_run.1 ∈ tw_tbl ∧ Cond.selects i_X8_run.1.cls i_X8_run.1 i_X8_run.1 ∈ tw_tbl := ⟨tb_at 482 (by decide +kernel) rfl, tb_at 483 (by decide +kernel) rfl⟩
theorem mc_X6_120 : MCW RX6 120 i_X8_start 2 := ⟨tb_at 478 (by decide +kernel) rfl, tb_at 44 (by decide +kernel) rfl, tb_at 475 (by decide +kernel) rfl, by decide +kernel, by decide +kernel, by decide +kernel⟩
theorem mv_X8_start : Cond.instanceMethod i_X8_start.1 ∈ tw_tbl ∧ Cond.selects i_X8_start.1.cls i_X8_start.1 i_X8_start.1 ∈ tw_tbl := ⟨tb_at 476 (by decide +kernel) rfl, tb_at 477 (by decide +kernel) rfl⟩
theorem mc_X6_131 : MCW RX6 131 i_X7_add 1 := ⟨tb_at 502 (by decide +kernel) rfl, tb_at 45 (by decide +kernel) rfl, tb_at 499 (by decide +kernel) rfl, by decide +kernel, by decide +kernel, by decide +kernel⟩
theorem mc_X6_128 : MCW RX6 128 i_X8_endAt 1 := ⟨tb_at 498 (by decide +kernel) rfl, tb_at 44 (by decide +kernel) rfl, tb_at 495 (by decide +kernel) rfl, by decide +kernel, by decide +kernel, by decide +kernel⟩
theorem mv_X8_endAt : Cond.instanceMethod i_X8_endAt.1 ∈ tw_tbl ∧ Cond.selects i_X8_endAt.1.cls i_X8_endAt.1 i_X8_endAt.1 ∈ tw_tbl := ⟨tb_at 496 (by decide +kernel) rfl, tb_at 497 (by decide +kernel) rfl⟩
abbrev i_X6_findRow : TMI := (yX6_findRow, cX6_findRow, 7, none)
theorem mc_X6_112 : MCW RX6 112 i_X6_firstThatLeadsOn 3 := ⟨tb_at 470 (by decide +kernel) rfl, tb_at 43 (by decide +kernel) rfl, tb_at 467 (by decide +kernel) rfl, by decide +kernel, by decide +kernel, by decide +kernel⟩
theorem mv_X6_firstThatLeadsOn : Cond.instanceMethod i_X6_firstThatLeadsOn.1 ∈ tw_tbl ∧ Cond.selects i_X6_firstThatLeadsOn.1.cls i_X6_firstThatLeadsOn.1 i_X6_firstThatLeadsOn.1 ∈ tw_tbl := ⟨tb_at 469 (by decide +kernel) rfl, tb_at 8 (by decide +kernel) rfl⟩
theorem mc_X6_116 : MCW RX6 116 i_X6_append 4 := ⟨tb_at 474 (by decide +kernel) rfl, tb_at 43 (by decide +kernel) rfl, tb_at 471 (by decide +kernel) rfl, by decide +kernel, by decide +kernel, by decide +kernel⟩
theorem mv_X6_append : Cond.instanceMethod i_X6_append.1 ∈ tw_tbl ∧ Cond.selects i_X6_append.1.cls i_X6_append.1 i_X6_append.1 ∈ tw_tbl := ⟨tb_at 473 (by decide +kernel) rfl, tb_at 9 (by decide +kernel) rfl⟩
abbrev i_X6_find : TMI := (yX6_find, cX6_find, 3, (some .boolean))
theorem gf_X6_44 : GF RX6 44 6 6 := ⟨RX6, TX6, 7, rfl, by decide, in_X6, tb_at 155 (by decide +kernel) rfl, rfl⟩
theorem mc_X6_48 : MCW RX6 48 i_X6_lookAhead 2 := ⟨tb_at 424 (by decide +kernel) rfl, tb_at 43 (by decide +kernel) rfl, tb_at 421 (by decide +kernel) rfl, by decide +kernel, by decide +kernel, by decide +kernel⟩
theorem mv_X6_lookAhead : Cond.instanceMethod i_X6_lookAhead.1 ∈ tw_tbl ∧ Cond.selects i_X6_lookAhead.1.cls i_X6_lookAhead.1 i_X6_lookAhead.1 ∈ tw_tbl := ⟨tb_at 423 (by decide +kernel) rfl, tb_at 4 (by decide +kernel) rfl⟩
theorem mc_X6_52 : MCW RX6 52 i_X7_clear 0 := ⟨tb_at 462 (by decide +kernel) rfl, tb_at 45 (by decide +kernel) rfl, tb_at 459 (by decide +kernel) rfl, by decide +kernel, by decide +kernel, by decide +kernel⟩
theorem gp_X6_40 : GP RX6 40 6 5 .int := ⟨RX6, TX6, 7, tyX6, rfl, by decide, in_X6, tb_at 154 (by decide +kernel) rfl, rfl, tyX6_ok, nmX6, rfl, by decide +kernel⟩
theorem mc_X6_65 : MCW RX6 65 i_X6_findRow 2 := ⟨tb_at 466 (by decide +kernel) rfl, tb_at 43 (by decide +kernel) rfl, tb_at 463 (by decide +kernel) rfl, by decide +kernel, by decide +kernel, by decide +kernel⟩
theorem mv_X6_findRow : Cond.instanceMethod i_X6_findRow.1 ∈ tw_tbl ∧ Cond.selects i_X6_findRow.1.cls i_X6_findRow.1 i_X6_findRow.1 ∈ tw_tbl := ⟨tb_at 465 (by decide +kernel) rfl, tb_at 7 (by decide +kernel) rfl⟩
abbrev i_X10_least : TMI := (yX10_least, cX10_least, 1, (some .int))
theorem mc_X10_142 : MCW RX10 142 i_X6_find 2 := ⟨tb_at 420 (by decide +kernel) rfl, tb_at 43 (by decide +kernel) rfl, tb_at 417 (by decide +kernel) rfl, by decide +kernel, by decide +kernel, by decide +kernel⟩
theorem mv_X6_find : Cond.instanceMethod i_X6_find.1 ∈ tw_tbl ∧ Cond.selects i_X6_find.1.cls i_X6_find.1 i_X6_find.1 ∈ tw_tbl := ⟨tb_at 418 (by decide +kernel) rfl, tb_at 419 (by decide +kernel) rfl⟩
theorem mc_X10_146 : MCW RX10 146 i_X6_cheapest 0 := ⟨tb_at 506 (by decide +kernel) rfl, tb_at 43 (by decide +kernel) rfl, tb_at 503 (by decide +kernel) rfl, by decide +kernel, by decide +kernel, by decide +kernel⟩
theorem mv_X6_cheapest : Cond.instanceMethod i_X6_cheapest.1 ∈ tw_tbl ∧ Cond.selects i_X6_cheapest.1.cls i_X6_cheapest.1 i_X6_cheapest.1 ∈ tw_tbl := ⟨tb_at 504 (by decide +kernel) rfl, tb_at 505 (by decide +kernel) rfl⟩
abbrev i_X11_layOn : TMI := (yX11_layOn, cX11_layOn, 8, none)
theorem gf_X11_65 : GF RX11 65 11 23 := ⟨RX11, TX11, 32, rfl, by decide, in_X11, tb_at 768 (by decide +kernel) rfl, rfl⟩
theorem lc_X11_119 : Cond.constant RX11 119 1000000 ∈ tw_tbl := tb_at 904 (by decide +kernel) rfl
theorem sh_202 : shp[202]? = some (.inr (.inl 5)) := by decide +kernel
theorem gf_X11_68 : GF RX11 68 11 24 := ⟨RX11, TX11, 32, rfl, by decide, in_X11, tb_at 769 (by decide +kernel) rfl, rfl⟩
theorem sh_203 : shp[203]? = some (.inr (.inl 5)) := by decide +kernel
theorem mc_X11_126 : MCW RX11 126 i_X11_onAt 3 := ⟨tb_at 918 (by decide +kernel) rfl, tb_at 52 (by decide +kernel) rfl, tb_at 916 (by decide +kernel) rfl, by decide +kernel, by decide +kernel, by decide +kernel⟩
theorem mst_X11_onAt : Cond.static i_X11_onAt.1 ∈ tw_tbl := tb_at 917 (by decide +kernel) rfl
theorem gf_X11_62 : GF RX11 62 11 22 := ⟨RX11, TX11, 32, rfl, by decide, in_X11, tb_at 767 (by decide +kernel) rfl, rfl⟩
theorem sh_201 : shp[201]? = some (.inr (.inl 13448)) := by decide +kernel
theorem mc_X11_120 : MCW RX11 120 i_X11_lesser 2 := ⟨tb_at 911 (by decide +kernel) rfl, tb_at 52 (by decide +kernel) rfl, tb_at 909 (by decide +kernel) rfl, by decide +kernel, by decide +kernel, by decide +kernel⟩
theorem mst_X11_lesser : Cond.static i_X11_lesser.1 ∈ tw_tbl := tb_at 910 (by decide +kernel) rfl
theorem mc_X11_123 : MCW RX11 123 i_X11_costOf 2 := ⟨tb_at 915 (by decide +kernel) rfl, tb_at 52 (by decide +kernel) rfl, tb_at 912 (by decide +kernel) rfl, by decide +kernel, by decide +kernel, by decide +kernel⟩
theorem mv_X11_costOf : Cond.instanceMethod i_X11_costOf.1 ∈ tw_tbl ∧ Cond.selects i_X11_costOf.1.cls i_X11_costOf.1 i_X11_costOf.1 ∈ tw_tbl := ⟨tb_at 914 (by decide +kernel) rfl, tb_at 28 (by decide +kernel) rfl⟩
abbrev i_X11_layAll : TMI := (yX11_layAll, cX11_layAll, 4, none)
theorem mc_X11_130 : MCW RX11 130 i_X11_layOn 3 := ⟨tb_at 908 (by decide +kernel) rfl, tb_at 52 (by decide +kernel) rfl, tb_at 905 (by decide +kernel) rfl, by decide +kernel, by decide +kernel, by decide +kernel⟩
theorem mv_X11_layOn : Cond.instanceMethod i_X11_layOn.1 ∈ tw_tbl ∧ Cond.selects i_X11_layOn.1.cls i_X11_layOn.1 i_X11_layOn.1 ∈ tw_tbl := ⟨tb_at 907 (by decide +kernel) rfl, tb_at 27 (by decide +kernel) rfl⟩
abbrev i_X11_withNext : TMI := (yX11_withNext, cX11_withNext, 6, (some .int))
theorem mc_X11_134 : MCW RX11 134 i_X11_restAt 2 := ⟨tb_at 926 (by decide +kernel) rfl, tb_at 52 (by decide +kernel) rfl, tb_at 923 (by decide +kernel) rfl, by decide +kernel, by decide +kernel, by decide +kernel⟩
theorem mv_X11_restAt : Cond.instanceMethod i_X11_restAt.1 ∈ tw_tbl ∧ Cond.selects i_X11_restAt.1.cls i_X11_restAt.1 i_X11_restAt.1 ∈ tw_tbl := ⟨tb_at 925 (by decide +kernel) rfl, tb_at 30 (by decide +kernel) rfl⟩
abbrev i_X11_layRest : TMI := (yX11_layRest, cX11_layRest, 5, none)
theorem mc_X11_137 : MCW RX11 137 i_X11_layAll 0 := ⟨tb_at 903 (by decide +kernel) rfl, tb_at 52 (by decide +kernel) rfl, tb_at 900 (by decide +kernel) rfl, by decide +kernel, by decide +kernel, by decide +kernel⟩
theorem mv_X11_layAll : Cond.instanceMethod i_X11_layAll.1 ∈ tw_tbl ∧ Cond.selects i_X11_layAll.1.cls i_X11_layAll.1 i_X11_layAll.1 ∈ tw_tbl := ⟨tb_at 902 (by decide +kernel) rfl, tb_at 26 (by decide +kernel) rfl⟩
theorem mc_X11_140 : MCW RX11 140 i_X11_withNext 3 := ⟨tb_at 922 (by decide +kernel) rfl, tb_at 52 (by decide +kernel) rfl, tb_at 919 (by decide +kernel) rfl, by decide +kernel, by decide +kernel, by decide +kernel⟩
theorem mv_X11_withNext : Cond.instanceMethod i_X11_withNext.1 ∈ tw_tbl ∧ Cond.selects i_X11_withNext.1.cls i_X11_withNext.1 i_X11_withNext.1 ∈ tw_tbl := ⟨tb_at 921 (by decide +kernel) rfl, tb_at 29 (by decide +kernel) rfl⟩
abbrev i_X11_leastNow : TMI := (yX11_leastNow, cX11_leastNow, 1, (some .int))
theorem mc_X11_143 : MCW RX11 143 i_X11_layRest 0 := ⟨tb_at 899 (by decide +kernel) rfl, tb_at 52 (by decide +kernel) rfl, tb_at 896 (by decide +kernel) rfl, by decide +kernel, by decide +kernel, by decide +kernel⟩
theorem mv_X11_layRest : Cond.instanceMethod i_X11_layRest.1 ∈ tw_tbl ∧ Cond.selects i_X11_layRest.1.cls i_X11_layRest.1 i_X11_layRest.1 ∈ tw_tbl := ⟨tb_at 898 (by decide +kernel) rfl, tb_at 25 (by decide +kernel) rfl⟩
abbrev i_X11_least : TMI := (yX11_least, cX11_least, 2, (some .int))
theorem mc_X11_146 : MCW RX11 146 i_X11_leastNow 0 := ⟨tb_at 895 (by decide +kernel) rfl, tb_at 52 (by decide +kernel) rfl, tb_at 892 (by decide +kernel) rfl, by decide +kernel, by decide +kernel, by decide +kernel⟩
theorem mv_X11_leastNow : Cond.instanceMethod i_X11_leastNow.1 ∈ tw_tbl ∧ Cond.selects i_X11_leastNow.1.cls i_X11_leastNow.1 i_X11_leastNow.1 ∈ tw_tbl := ⟨tb_at 894 (by decide +kernel) rfl, tb_at 24 (by decide +kernel) rfl⟩
abbrev i_X10_rowSize : TMI := (yX10_rowSize, cX10_rowSize, 1, (some .int))
theorem mc_X10_149 : MCW RX10 149 i_X6_row 0 := ⟨tb_at 514 (by decide +kernel) rfl, tb_at 43 (by decide +kernel) rfl, tb_at 511 (by decide +kernel) rfl, by decide +kernel, by decide +kernel, by decide +kernel⟩
theorem mv_X6_row : Cond.instanceMethod i_X6_row.1 ∈ tw_tbl ∧ Cond.selects i_X6_row.1.cls i_X6_row.1 i_X6_row.1 ∈ tw_tbl := ⟨tb_at 512 (by decide +kernel) rfl, tb_at 513 (by decide +kernel) rfl⟩
abbrev i_X11_goesOn : TMI := (yX11_goesOn, cX11_goesOn, 8, (some .boolean))
theorem gf_X11_80 : GF RX11 80 11 29 := ⟨RX11, TX11, 32, rfl, by decide, in_X11, tb_at 774 (by decide +kernel) rfl, rfl⟩
theorem sh_207 : shp[207]? = some (.inr (.inl 41)) := by decide +kernel
theorem gf_X11_77 : GF RX11 77 11 28 := ⟨RX11, TX11, 32, rfl, by decide, in_X11, tb_at 773 (by decide +kernel) rfl, rfl⟩
theorem sh_206 : shp[206]? = some (.inr (.inl 41)) := by decide +kernel
abbrev i_X11_findRow : TMI := (yX11_findRow, cX11_findRow, 5, (some .boolean))
theorem gp_X11_150 : GP RX11 150 11 26 .int := ⟨RX11, TX11, 32, tyX11, rfl, by decide, in_X11, tb_at 771 (by decide +kernel) rfl, rfl, tyX11_ok, nmX11, rfl, by decide +kernel⟩
theorem mc_X11_153 : MCW RX11 153 i_X11_goesOn 3 := ⟨tb_at 938 (by decide +kernel) rfl, tb_at 52 (by decide +kernel) rfl, tb_at 935 (by decide +kernel) rfl, by decide +kernel, by decide +kernel, by decide +kernel⟩
theorem mv_X11_goesOn : Cond.instanceMethod i_X11_goesOn.1 ∈ tw_tbl ∧ Cond.selects i_X11_goesOn.1.cls i_X11_goesOn.1 i_X11_goesOn.1 ∈ tw_tbl := ⟨tb_at 937 (by decide +kernel) rfl, tb_at 32 (by decide +kernel) rfl⟩
theorem gf_X11_74 : GF RX11 74 11 27 := ⟨RX11, TX11, 32, rfl, by decide, in_X11, tb_at 772 (by decide +kernel) rfl, rfl⟩
theorem gf_X11_150 : GF RX11 150 11 26 := ⟨RX11, TX11, 32, rfl, by decide, in_X11, tb_at 771 (by decide +kernel) rfl, rfl⟩
theorem sh_205 : shp[205]? = some (.inr (.inl 40)) := by decide +kernel
abbrev i_X11_rowSize : TMI := (yX11_rowSize, cX11_rowSize, 1, (some .int))
theorem mc_X11_156 : MCW RX11 156 i_X11_findRow 0 := ⟨tb_at 934 (by decide +kernel) rfl, tb_at 52 (by decide +kernel) rfl, tb_at 931 (by decide +kernel) rfl, by decide +kernel, by decide +kernel, by decide +kernel⟩
theorem mv_X11_findRow : Cond.instanceMethod i_X11_findRow.1 ∈ tw_tbl ∧ Cond.selects i_X11_findRow.1.cls i_X11_findRow.1 i_X11_findRow.1 ∈ tw_tbl := ⟨tb_at 933 (by decide +kernel) rfl, tb_at 31 (by decide +kernel) rfl⟩
abbrev i_X10_rowAt : TMI := (yX10_rowAt, cX10_rowAt, 2, (some .int))
theorem mc_X10_156 : MCW RX10 156 i_X7_at 1 := ⟨tb_at 526 (by decide +kernel) rfl, tb_at 45 (by decide +kernel) rfl, tb_at 523 (by decide +kernel) rfl, by decide +kernel, by decide +kernel, by decide +kernel⟩
theorem mv_X7_at : Cond.instanceMethod i_X7_at.1 ∈ tw_tbl ∧ Cond.selects i_X7_at.1.cls i_X7_at.1 i_X7_at.1 ∈ tw_tbl := ⟨tb_at 524 (by decide +kernel) rfl, tb_at 525 (by decide +kernel) rfl⟩
abbrev i_X11_rowAt : TMI := (yX11_rowAt, cX11_rowAt, 2, (some .int))
abbrev i_X6_cheapestWithAnotherFirst : TMI := (yX6_cheapestWithAnotherFirst, cX6_cheapestWithAnotherFirst, 2, (some .int))
theorem mc_X6_68 : MCW RX6 68 i_X7_at 1 := ⟨tb_at 526 (by decide +kernel) rfl, tb_at 45 (by decide +kernel) rfl, tb_at 535 (by decide +kernel) rfl, by decide +kernel, by decide +kernel, by decide +kernel⟩
abbrev i_X10_beside : TMI := (yX10_beside, cX10_beside, 2, (some .int))
theorem mc_X10_159 : MCW RX10 159 i_X6_cheapestWithAnotherFirst 1 := ⟨tb_at 534 (by decide +kernel) rfl, tb_at 43 (by decide +kernel) rfl, tb_at 531 (by decide +kernel) rfl, by decide +kernel, by decide +kernel, by decide +kernel⟩
theorem mv_X6_cheapestWithAnotherFirst : Cond.instanceMethod i_X6_cheapestWithAnotherFirst.1 ∈ tw_tbl ∧ Cond.selects i_X6_cheapestWithAnotherFirst.1.cls i_X6_cheapestWithAnotherFirst.1 i_X6_cheapestWithAnotherFirst.1 ∈ tw_tbl := ⟨tb_at 532 (by decide +kernel) rfl, tb_at 533 (by decide +kernel) rfl⟩
theorem lc_X10_163 : Cond.constant RX10 163 1000000 ∈ tw_tbl := tb_at 536 (by decide +kernel) rfl
abbrev i_X11_beside : TMI := (yX11_beside, cX11_beside, 3, (some .int))
abbrev i_X3_takeRow : TMI := (yX3_takeRow, cX3_takeRow, 8, none)
theorem mc_X3_70 : MCW RX3 70 i_J7_fill_53178 2 := ⟨tb_at 71 (by decide +kernel) rfl, tb_at 41 (by decide +kernel) rfl, tb_at 562 (by decide +kernel) rfl, by decide +kernel, by decide +kernel, by decide +kernel⟩
theorem mc_X3_34 : MCW RX3 34 i_X7_size 0 := ⟨tb_at 518 (by decide +kernel) rfl, tb_at 45 (by decide +kernel) rfl, tb_at 555 (by decide +kernel) rfl, by decide +kernel, by decide +kernel, by decide +kernel⟩
theorem gp_X3_26 : GP RX3 26 3 4 .int := ⟨RX3, TX3, 6, tyX3, rfl, by decide, in_X3, tb_at 184 (by decide +kernel) rfl, rfl, tyX3_ok, nmX3, rfl, by decide +kernel⟩
theorem mc_X3_54 : MCW RX3 54 i_X7_at 1 := ⟨tb_at 526 (by decide +kernel) rfl, tb_at 45 (by decide +kernel) rfl, tb_at 563 (by decide +kernel) rfl, by decide +kernel, by decide +kernel, by decide +kernel⟩
theorem mc_X3_58 : MCW RX3 58 i_X5_joint 2 := ⟨tb_at 431 (by decide +kernel) rfl, tb_at 42 (by decide +kernel) rfl, tb_at 564 (by decide +kernel) rfl, by decide +kernel, by decide +kernel, by decide +kernel⟩
theorem mc_X3_76 : MCW RX3 76 i_X5_waysOf 1 := ⟨tb_at 396 (by decide +kernel) rfl, tb_at 42 (by decide +kernel) rfl, tb_at 565 (by decide +kernel) rfl, by decide +kernel, by decide +kernel, by decide +kernel⟩
theorem mc_X3_79 : MCW RX3 79 i_X5_lengthOf 2 := ⟨tb_at 449 (by decide +kernel) rfl, tb_at 42 (by decide +kernel) rfl, tb_at 566 (by decide +kernel) rfl, by decide +kernel, by decide +kernel, by decide +kernel⟩
theorem mc_X3_82 : MCW RX3 82 i_X5_soundOf 3 := ⟨tb_at 454 (by decide +kernel) rfl, tb_at 42 (by decide +kernel) rfl, tb_at 567 (by decide +kernel) rfl, by decide +kernel, by decide +kernel, by decide +kernel⟩
abbrev i_X3_lookAhead : TMI := (yX3_lookAhead, cX3_lookAhead, 6, none)
theorem mc_X3_40 : MCW RX3 40 i_X2_frames 0 := ⟨tb_at 307 (by decide +kernel) rfl, tb_at 40 (by decide +kernel) rfl, tb_at 556 (by decide +kernel) rfl, by decide +kernel, by decide +kernel, by decide +kernel⟩
theorem mc_X3_86 : MCW RX3 86 i_X3_goOn 3 := ⟨tb_at 575 (by decide +kernel) rfl, tb_at 47 (by decide +kernel) rfl, tb_at 572 (by decide +kernel) rfl, by decide +kernel, by decide +kernel, by decide +kernel⟩
theorem mv_X3_goOn : Cond.instanceMethod i_X3_goOn.1 ∈ tw_tbl ∧ Cond.selects i_X3_goOn.1.cls i_X3_goOn.1 i_X3_goOn.1 ∈ tw_tbl := ⟨tb_at 574 (by decide +kernel) rfl, tb_at 13 (by decide +kernel) rfl⟩
theorem mc_X3_89 : MCW RX3 89 i_X3_stayOn 3 := ⟨tb_at 587 (by decide +kernel) rfl, tb_at 47 (by decide +kernel) rfl, tb_at 584 (by decide +kernel) rfl, by decide +kernel, by decide +kernel, by decide +kernel⟩
theorem mv_X3_stayOn : Cond.instanceMethod i_X3_stayOn.1 ∈ tw_tbl ∧ Cond.selects i_X3_stayOn.1.cls i_X3_stayOn.1 i_X3_stayOn.1 ∈ tw_tbl := ⟨tb_at 586 (by decide +kernel) rfl, tb_at 16 (by decide +kernel) rfl⟩
theorem mm_X3_93 : Cond.methodLink RX3 93 Lib.Math.min.name ∈ tw_tbl ∧ Cond.static Lib.Math.min.name ∈ tw_tbl ∧ Cond.initialized "java/lang/Math" ∈ tw_tbl ∧ Cond.code Lib.Math.min.name Lib.Math.min.code 2 (some .int) ∈ tw_tbl := ⟨tb_at 589 (by decide +kernel) rfl, tb_at 439 (by decide +kernel) rfl, tb_at 46 (by decide +kernel) rfl, tb_at 440 (by decide +kernel) rfl⟩
theorem mc_X3_98 : MCW RX3 98 i_X2_costAt 2 := ⟨tb_at 458 (by decide +kernel) rfl, tb_at 40 (by decide +kernel) rfl, tb_at 590 (by decide +kernel) rfl, by decide +kernel, by decide +kernel, by decide +kernel⟩
abbrev i_X3_walk : TMI := (yX3_walk, cX3_walk, 6, none)
abbrev i_X3_find : TMI := (yX3_find, cX3_find, 5, (some .int))
theorem mc_X3_46 : MCW RX3 46 i_X3_takeRow 2 := ⟨tb_at 561 (by decide +kernel) rfl, tb_at 47 (by decide +kernel) rfl, tb_at 558 (by decide +kernel) rfl, by decide +kernel, by decide +kernel, by decide +kernel⟩
theorem mv_X3_takeRow : Cond.instanceMethod i_X3_takeRow.1 ∈ tw_tbl ∧ Cond.selects i_X3_takeRow.1.cls i_X3_takeRow.1 i_X3_takeRow.1 ∈ tw_tbl := ⟨tb_at 560 (by decide +kernel) rfl, tb_at 11 (by decide +kernel) rfl⟩
theorem mc_X3_50 : MCW RX3 50 i_X3_lookAhead 1 := ⟨tb_at 571 (by decide +kernel) rfl, tb_at 47 (by decide +kernel) rfl, tb_at 568 (by decide +kernel) rfl, by decide +kernel, by decide +kernel, by decide +kernel⟩
theorem mv_X3_lookAhead : Cond.instanceMethod i_X3_lookAhead.1 ∈ tw_tbl ∧ Cond.selects i_X3_lookAhead.1.cls i_X3_lookAhead.1 i_X3_lookAhead.1 ∈ tw_tbl := ⟨tb_at 570 (by decide +kernel) rfl, tb_at 12 (by decide +kernel) rfl⟩
theorem sh_112 : shp[112]? = some (.inr (.inl 96)) := by decide +kernel
theorem mc_X3_67 : MCW RX3 67 i_X3_walk 1 := ⟨tb_at 594 (by decide +kernel) rfl, tb_at 47 (by decide +kernel) rfl, tb_at 591 (by decide +kernel) rfl, by decide +kernel, by decide +kernel, by decide +kernel⟩
theorem mv_X3_walk : Cond.instanceMethod i_X3_walk.1 ∈ tw_tbl ∧ Cond.selects i_X3_walk.1.cls i_X3_walk.1 i_X3_walk.1 ∈ tw_tbl := ⟨tb_at 593 (by decide +kernel) rfl, tb_at 17 (by decide +kernel) rfl⟩
abbrev i_X10_lay : TMI := (yX10_lay, cX10_lay, 2, (some .int))
theorem mc_X10_169 : MCW RX10 169 i_X3_find 3 := ⟨tb_at 554 (by decide +kernel) rfl, tb_at 47 (by decide +kernel) rfl, tb_at 551 (by decide +kernel) rfl, by decide +kernel, by decide +kernel, by decide +kernel⟩
theorem mv_X3_find : Cond.instanceMethod i_X3_find.1 ∈ tw_tbl ∧ Cond.selects i_X3_find.1.cls i_X3_find.1 i_X3_find.1 ∈ tw_tbl := ⟨tb_at 552 (by decide +kernel) rfl, tb_at 553 (by decide +kernel) rfl⟩
abbrev i_X11_bestWay : TMI := (yX11_bestWay, cX11_bestWay, 5, (some .int))
theorem gf_X11_83 : GF RX11 83 11 30 := ⟨RX11, TX11, 32, rfl, by decide, in_X11, tb_at 775 (by decide +kernel) rfl, rfl⟩
theorem mc_X11_166 : MCW RX11 166 i_X11_aheadAt 4 := ⟨tb_at 977 (by decide +kernel) rfl, tb_at 52 (by decide +kernel) rfl, tb_at 975 (by decide +kernel) rfl, by decide +kernel, by decide +kernel, by decide +kernel⟩
theorem mst_X11_aheadAt : Cond.static i_X11_aheadAt.1 ∈ tw_tbl := tb_at 976 (by decide +kernel) rfl
theorem sh_208 : shp[208]? = some (.inr (.inl 3936)) := by decide +kernel
abbrev i_X11_behindWord : TMI := (yX11_behindWord, cX11_behindWord, 4, (some .int))
theorem mc_X11_163 : MCW RX11 163 i_X11_bestWay 2 := ⟨tb_at 974 (by decide +kernel) rfl, tb_at 52 (by decide +kernel) rfl, tb_at 971 (by decide +kernel) rfl, by decide +kernel, by decide +kernel, by decide +kernel⟩
theorem mv_X11_bestWay : Cond.instanceMethod i_X11_bestWay.1 ∈ tw_tbl ∧ Cond.selects i_X11_bestWay.1.cls i_X11_bestWay.1 i_X11_bestWay.1 ∈ tw_tbl := ⟨tb_at 973 (by decide +kernel) rfl, tb_at 36 (by decide +kernel) rfl⟩
abbrev i_X11_soundTo : TMI := (yX11_soundTo, cX11_soundTo, 10, (some .int))
theorem mc_X11_169 : MCW RX11 169 i_X11_behindWord 2 := ⟨tb_at 970 (by decide +kernel) rfl, tb_at 52 (by decide +kernel) rfl, tb_at 967 (by decide +kernel) rfl, by decide +kernel, by decide +kernel, by decide +kernel⟩
theorem mv_X11_behindWord : Cond.instanceMethod i_X11_behindWord.1 ∈ tw_tbl ∧ Cond.selects i_X11_behindWord.1.cls i_X11_behindWord.1 i_X11_behindWord.1 ∈ tw_tbl := ⟨tb_at 969 (by decide +kernel) rfl, tb_at 35 (by decide +kernel) rfl⟩
abbrev i_X11_layAhead : TMI := (yX11_layAhead, cX11_layAhead, 7, none)
theorem mc_X11_172 : MCW RX11 172 i_X11_soundTo 5 := ⟨tb_at 966 (by decide +kernel) rfl, tb_at 52 (by decide +kernel) rfl, tb_at 963 (by decide +kernel) rfl, by decide +kernel, by decide +kernel, by decide +kernel⟩
theorem mv_X11_soundTo : Cond.instanceMethod i_X11_soundTo.1 ∈ tw_tbl ∧ Cond.selects i_X11_soundTo.1.cls i_X11_soundTo.1 i_X11_soundTo.1 ∈ tw_tbl := ⟨tb_at 965 (by decide +kernel) rfl, tb_at 34 (by decide +kernel) rfl⟩
abbrev i_X11_lay : TMI := (yX11_lay, cX11_lay, 9, (some .int))
theorem mc_X11_176 : MCW RX11 176 i_X11_layAhead 0 := ⟨tb_at 962 (by decide +kernel) rfl, tb_at 52 (by decide +kernel) rfl, tb_at 959 (by decide +kernel) rfl, by decide +kernel, by decide +kernel, by decide +kernel⟩
theorem mv_X11_layAhead : Cond.instanceMethod i_X11_layAhead.1 ∈ tw_tbl ∧ Cond.selects i_X11_layAhead.1.cls i_X11_layAhead.1 i_X11_layAhead.1 ∈ tw_tbl := ⟨tb_at 961 (by decide +kernel) rfl, tb_at 33 (by decide +kernel) rfl⟩
abbrev i_X1_fewest : TMI := (yX1_fewest, cX1_fewest, 8, (some .int))
theorem mc_X1_15 : MCW RX1 15 i_X7_size 0 := ⟨tb_at 518 (by decide +kernel) rfl, tb_at 45 (by decide +kernel) rfl, tb_at 623 (by decide +kernel) rfl, by decide +kernel, by decide +kernel, by decide +kernel⟩
theorem mm_X1_21 : Cond.methodLink RX1 21 Lib.Math.min.name ∈ tw_tbl ∧ Cond.static Lib.Math.min.name ∈ tw_tbl ∧ Cond.initialized "java/lang/Math" ∈ tw_tbl ∧ Cond.code Lib.Math.min.name Lib.Math.min.code 2 (some .int) ∈ tw_tbl := ⟨tb_at 624 (by decide +kernel) rfl, tb_at 439 (by decide +kernel) rfl, tb_at 46 (by decide +kernel) rfl, tb_at 440 (by decide +kernel) rfl⟩
theorem gf_X1_9 : GF RX1 9 1 0 := ⟨RX1, TX1, 1, rfl, by decide, in_X1, tb_at 205 (by decide +kernel) rfl, rfl⟩
theorem sh_154 : shp[154]? = some (.inl (1, [some 155])) := by decide +kernel
theorem sh_155 : shp[155]? = some (.inr (.inl 41)) := by decide +kernel
theorem mc_X1_27 : MCW RX1 27 i_X7_at 1 := ⟨tb_at 526 (by decide +kernel) rfl, tb_at 45 (by decide +kernel) rfl, tb_at 625 (by decide +kernel) rfl, by decide +kernel, by decide +kernel, by decide +kernel⟩
abbrev i_X10_edits : TMI := (yX10_edits, cX10_edits, 1, (some .int))
theorem gf_X10_49 : GF RX10 49 10 5 := ⟨RX10, TX10, 9, rfl, by decide, in_X10, tb_at 271 (by decide +kernel) rfl, rfl⟩
theorem mc_X10_185 : MCW RX10 185 i_X1_fewest 2 := ⟨tb_at 622 (by decide +kernel) rfl, tb_at 48 (by decide +kernel) rfl, tb_at 619 (by decide +kernel) rfl, by decide +kernel, by decide +kernel, by decide +kernel⟩
theorem mv_X1_fewest : Cond.instanceMethod i_X1_fewest.1 ∈ tw_tbl ∧ Cond.selects i_X1_fewest.1.cls i_X1_fewest.1 i_X1_fewest.1 ∈ tw_tbl := ⟨tb_at 620 (by decide +kernel) rfl, tb_at 621 (by decide +kernel) rfl⟩
abbrev i_X11_edits : TMI := (yX11_edits, cX11_edits, 4, (some .int))
theorem gf_X11_86 : GF RX11 86 11 31 := ⟨RX11, TX11, 32, rfl, by decide, in_X11, tb_at 776 (by decide +kernel) rfl, rfl⟩
theorem sh_209 : shp[209]? = some (.inr (.inl 533)) := by decide +kernel
abbrev i_X4_learn : TMI := (yX4_learn, cX4_learn, 8, (some .int))
theorem gf_X4_16 : GF RX4 16 4 1 := ⟨RX4, TX4, 4, rfl, by decide, in_X4, tb_at 217 (by decide +kernel) rfl, rfl⟩
theorem gf_X4_19 : GF RX4 19 4 2 := ⟨RX4, TX4, 4, rfl, by decide, in_X4, tb_at 218 (by decide +kernel) rfl, rfl⟩
theorem sh_164 : shp[164]? = some (.inr (.inr (16, 165))) := by decide +kernel
theorem shr_164 : ∀ j, j < 16 → shp[165 + j]? = some (.inr (.inl 48)) := fun j hj => of_decide_eq_true (List.all_eq_true.mp (show (List.range 16).all (fun j => decide (shp[165 + j]? = some (.inr (.inl 48)))) = true by decide +kernel) j (List.mem_range.mpr hj))
theorem mc_X4_26 : MCW RX4 26 i_J7_fill_53178 2 := ⟨tb_at 71 (by decide +kernel) rfl, tb_at 41 (by decide +kernel) rfl, tb_at 634 (by decide +kernel) rfl, by decide +kernel, by decide +kernel, by decide +kernel⟩
theorem mc_X4_32 : MCW RX4 32 i_X2_frames 0 := ⟨tb_at 307 (by decide +kernel) rfl, tb_at 40 (by decide +kernel) rfl, tb_at 635 (by decide +kernel) rfl, by decide +kernel, by decide +kernel, by decide +kernel⟩
theorem gp_X4_19 : GP RX4 19 4 2 .int := ⟨RX4, TX4, 4, tyX4, rfl, by decide, in_X4, tb_at 218 (by decide +kernel) rfl, rfl, tyX4_ok, nmX4, rfl, by decide +kernel⟩
theorem mm_X4_47 : Cond.methodLink RX4 47 Lib.Math.min.name ∈ tw_tbl ∧ Cond.static Lib.Math.min.name ∈ tw_tbl ∧ Cond.initialized "java/lang/Math" ∈ tw_tbl ∧ Cond.code Lib.Math.min.name Lib.Math.min.code 2 (some .int) ∈ tw_tbl := ⟨tb_at 641 (by decide +kernel) rfl, tb_at 439 (by decide +kernel) rfl, tb_at 46 (by decide +kernel) rfl, tb_at 440 (by decide +kernel) rfl⟩
theorem gp_X4_23 : GP RX4 23 4 3 .int := ⟨RX4, TX4, 4, tyX4, rfl, by decide, in_X4, tb_at 219 (by decide +kernel) rfl, rfl, tyX4_ok, nmX4, rfl, by decide +kernel⟩
theorem mc_X4_38 : MCW RX4 38 i_X2_markOf 1 := ⟨tb_at 639 (by decide +kernel) rfl, tb_at 40 (by decide +kernel) rfl, tb_at 636 (by decide +kernel) rfl, by decide +kernel, by decide +kernel, by decide +kernel⟩
theorem mc_X4_42 : MCW RX4 42 i_X3_soundAt 1 := ⟨tb_at 606 (by decide +kernel) rfl, tb_at 47 (by decide +kernel) rfl, tb_at 640 (by decide +kernel) rfl, by decide +kernel, by decide +kernel, by decide +kernel⟩
abbrev i_X10_teach : TMI := (yX10_teach, cX10_teach, 1, (some .int))
theorem mc_X10_189 : MCW RX10 189 i_X4_learn 2 := ⟨tb_at 633 (by decide +kernel) rfl, tb_at 49 (by decide +kernel) rfl, tb_at 630 (by decide +kernel) rfl, by decide +kernel, by decide +kernel, by decide +kernel⟩
theorem mv_X4_learn : Cond.instanceMethod i_X4_learn.1 ∈ tw_tbl ∧ Cond.selects i_X4_learn.1.cls i_X4_learn.1 i_X4_learn.1 ∈ tw_tbl := ⟨tb_at 631 (by decide +kernel) rfl, tb_at 632 (by decide +kernel) rfl⟩
abbrev i_X11_teach : TMI := (yX11_teach, cX11_teach, 4, (some .int))
theorem gp_X11_179 : GP RX11 179 11 16 .int := ⟨RX11, TX11, 32, tyX11, rfl, by decide, in_X11, tb_at 761 (by decide +kernel) rfl, rfl, tyX11_ok, nmX11, rfl, by decide +kernel⟩
theorem gf_X11_47 : GF RX11 47 11 17 := ⟨RX11, TX11, 32, rfl, by decide, in_X11, tb_at 762 (by decide +kernel) rfl, rfl⟩
theorem sh_199 : shp[199]? = some (.inr (.inl 16)) := by decide +kernel
theorem gf_X11_50 : GF RX11 50 11 18 := ⟨RX11, TX11, 32, rfl, by decide, in_X11, tb_at 763 (by decide +kernel) rfl, rfl⟩
theorem sh_200 : shp[200]? = some (.inr (.inl 640)) := by decide +kernel
abbrev i_X4_unlearn : TMI := (yX4_unlearn, cX4_unlearn, 6, (some .int))
abbrev i_X10_unteach : TMI := (yX10_unteach, cX10_unteach, 1, (some .int))
theorem mc_X10_196 : MCW RX10 196 i_X4_unlearn 0 := ⟨tb_at 653 (by decide +kernel) rfl, tb_at 49 (by decide +kernel) rfl, tb_at 650 (by decide +kernel) rfl, by decide +kernel, by decide +kernel, by decide +kernel⟩
theorem mv_X4_unlearn : Cond.instanceMethod i_X4_unlearn.1 ∈ tw_tbl ∧ Cond.selects i_X4_unlearn.1.cls i_X4_unlearn.1 i_X4_unlearn.1 ∈ tw_tbl := ⟨tb_at 651 (by decide +kernel) rfl, tb_at 652 (by decide +kernel) rfl⟩
abbrev i_X11_unteach : TMI := (yX11_unteach, cX11_unteach, 2, (some .int))
abbrev i_X4_allOf : TMI := (yX4_allOf, cX4_allOf, 4, (some .int))
abbrev i_X4_setCosts : TMI := (yX4_setCosts, cX4_setCosts, 6, (some .int))
theorem mc_X4_53 : MCW RX4 53 i_X4_allOf 1 := ⟨tb_at 673 (by decide +kernel) rfl, tb_at 49 (by decide +kernel) rfl, tb_at 670 (by decide +kernel) rfl, by decide +kernel, by decide +kernel, by decide +kernel⟩
theorem mv_X4_allOf : Cond.instanceMethod i_X4_allOf.1 ∈ tw_tbl ∧ Cond.selects i_X4_allOf.1.cls i_X4_allOf.1 i_X4_allOf.1 ∈ tw_tbl := ⟨tb_at 672 (by decide +kernel) rfl, tb_at 18 (by decide +kernel) rfl⟩
theorem mc_X4_56 : MCW RX4 56 i_X2_setCost 3 := ⟨tb_at 346 (by decide +kernel) rfl, tb_at 40 (by decide +kernel) rfl, tb_at 674 (by decide +kernel) rfl, by decide +kernel, by decide +kernel, by decide +kernel⟩
abbrev i_X10_renew : TMI := (yX10_renew, cX10_renew, 1, (some .int))
theorem mc_X10_202 : MCW RX10 202 i_X4_setCosts 1 := ⟨tb_at 669 (by decide +kernel) rfl, tb_at 49 (by decide +kernel) rfl, tb_at 666 (by decide +kernel) rfl, by decide +kernel, by decide +kernel, by decide +kernel⟩
theorem mv_X4_setCosts : Cond.instanceMethod i_X4_setCosts.1 ∈ tw_tbl ∧ Cond.selects i_X4_setCosts.1.cls i_X4_setCosts.1 i_X4_setCosts.1 ∈ tw_tbl := ⟨tb_at 667 (by decide +kernel) rfl, tb_at 668 (by decide +kernel) rfl⟩
abbrev i_X11_renew : TMI := (yX11_renew, cX11_renew, 5, (some .int))
abbrev i_X8_startNowhere : TMI := (yX8_startNowhere, cX8_startNowhere, 1, none)
theorem sh_185 : shp[185]? = some (.inr (.inl 4)) := by decide +kernel
abbrev i_X9_find : TMI := (yX9_find, cX9_find, 9, (some .boolean))
theorem mc_X9_28 : MCW RX9 28 i_X2_frames 0 := ⟨tb_at 307 (by decide +kernel) rfl, tb_at 40 (by decide +kernel) rfl, tb_at 683 (by decide +kernel) rfl, by decide +kernel, by decide +kernel, by decide +kernel⟩
theorem mm_X9_34 : Cond.methodLink RX9 34 Lib.Math.min.name ∈ tw_tbl ∧ Cond.static Lib.Math.min.name ∈ tw_tbl ∧ Cond.initialized "java/lang/Math" ∈ tw_tbl ∧ Cond.code Lib.Math.min.name Lib.Math.min.code 2 (some .int) ∈ tw_tbl := ⟨tb_at 684 (by decide +kernel) rfl, tb_at 439 (by decide +kernel) rfl, tb_at 46 (by decide +kernel) rfl, tb_at 440 (by decide +kernel) rfl⟩
theorem gf_X9_12 : GF RX9 12 9 0 := ⟨RX9, TX9, 4, rfl, by decide, in_X9, tb_at 237 (by decide +kernel) rfl, rfl⟩
theorem mc_X9_40 : MCW RX9 40 i_X8_startNowhere 0 := ⟨tb_at 688 (by decide +kernel) rfl, tb_at 44 (by decide +kernel) rfl, tb_at 685 (by decide +kernel) rfl, by decide +kernel, by decide +kernel, by decide +kernel⟩
theorem mv_X8_startNowhere : Cond.instanceMethod i_X8_startNowhere.1 ∈ tw_tbl ∧ Cond.selects i_X8_startNowhere.1.cls i_X8_startNowhere.1 i_X8_startNowhere.1 ∈ tw_tbl := ⟨tb_at 686 (by decide +kernel) rfl, tb_at 687 (by decide +kernel) rfl⟩
theorem mc_X9_43 : MCW RX9 43 i_X8_start 2 := ⟨tb_at 478 (by decide +kernel) rfl, tb_at 44 (by decide +kernel) rfl, tb_at 689 (by decide +kernel) rfl, by decide +kernel, by decide +kernel, by decide +kernel⟩
theorem mc_X9_47 : MCW RX9 47 i_X8_run 5 := ⟨tb_at 484 (by decide +kernel) rfl, tb_at 44 (by decide +kernel) rfl, tb_at 690 (by decide +kernel) rfl, by decide +kernel, by decide +kernel, by decide +kernel⟩
theorem mc_X9_51 : MCW RX9 51 i_X8_endAt 1 := ⟨tb_at 498 (by decide +kernel) rfl, tb_at 44 (by decide +kernel) rfl, tb_at 691 (by decide +kernel) rfl, by decide +kernel, by decide +kernel, by decide +kernel⟩
theorem lc_X9_55 : Cond.constant RX9 55 1000000 ∈ tw_tbl := tb_at 692 (by decide +kernel) rfl
theorem gp_X9_18 : GP RX9 18 9 1 .int := ⟨RX9, TX9, 4, tyX9, rfl, by decide, in_X9, tb_at 238 (by decide +kernel) rfl, rfl, tyX9_ok, nmX9, rfl, by decide +kernel⟩
theorem gp_X9_22 : GP RX9 22 9 2 .int := ⟨RX9, TX9, 4, tyX9, rfl, by decide, in_X9, tb_at 239 (by decide +kernel) rfl, rfl, tyX9_ok, nmX9, rfl, by decide +kernel⟩
theorem gp_X9_25 : GP RX9 25 9 3 .int := ⟨RX9, TX9, 4, tyX9, rfl, by decide, in_X9, tb_at 240 (by decide +kernel) rfl, rfl, tyX9_ok, nmX9, rfl, by decide +kernel⟩
theorem mc_X9_56 : MCW RX9 56 i_X9_isCheaper 2 := ⟨tb_at 696 (by decide +kernel) rfl, tb_at 50 (by decide +kernel) rfl, tb_at 693 (by decide +kernel) rfl, by decide +kernel, by decide +kernel, by decide +kernel⟩
theorem mv_X9_isCheaper : Cond.instanceMethod i_X9_isCheaper.1 ∈ tw_tbl ∧ Cond.selects i_X9_isCheaper.1.cls i_X9_isCheaper.1 i_X9_isCheaper.1 ∈ tw_tbl := ⟨tb_at 695 (by decide +kernel) rfl, tb_at 19 (by decide +kernel) rfl⟩
abbrev i_X10_spot : TMI := (yX10_spot, cX10_spot, 3, (some .int))
theorem gf_X10_63 : GF RX10 63 10 7 := ⟨RX10, TX10, 9, rfl, by decide, in_X10, tb_at 273 (by decide +kernel) rfl, rfl⟩
theorem mc_X10_206 : MCW RX10 206 i_X9_find 3 := ⟨tb_at 682 (by decide +kernel) rfl, tb_at 50 (by decide +kernel) rfl, tb_at 679 (by decide +kernel) rfl, by decide +kernel, by decide +kernel, by decide +kernel⟩
theorem mv_X9_find : Cond.instanceMethod i_X9_find.1 ∈ tw_tbl ∧ Cond.selects i_X9_find.1.cls i_X9_find.1 i_X9_find.1 ∈ tw_tbl := ⟨tb_at 680 (by decide +kernel) rfl, tb_at 681 (by decide +kernel) rfl⟩
theorem mc_X10_214 : MCW RX10 214 i_X9_price 0 := ⟨tb_at 708 (by decide +kernel) rfl, tb_at 50 (by decide +kernel) rfl, tb_at 705 (by decide +kernel) rfl, by decide +kernel, by decide +kernel, by decide +kernel⟩
theorem mv_X9_price : Cond.instanceMethod i_X9_price.1 ∈ tw_tbl ∧ Cond.selects i_X9_price.1.cls i_X9_price.1 i_X9_price.1 ∈ tw_tbl := ⟨tb_at 706 (by decide +kernel) rfl, tb_at 707 (by decide +kernel) rfl⟩
theorem mc_X10_212 : MCW RX10 212 i_X9_end 0 := ⟨tb_at 704 (by decide +kernel) rfl, tb_at 50 (by decide +kernel) rfl, tb_at 701 (by decide +kernel) rfl, by decide +kernel, by decide +kernel, by decide +kernel⟩
theorem mv_X9_end : Cond.instanceMethod i_X9_end.1 ∈ tw_tbl ∧ Cond.selects i_X9_end.1.cls i_X9_end.1 i_X9_end.1 ∈ tw_tbl := ⟨tb_at 702 (by decide +kernel) rfl, tb_at 703 (by decide +kernel) rfl⟩
theorem mc_X10_209 : MCW RX10 209 i_X9_begin 0 := ⟨tb_at 700 (by decide +kernel) rfl, tb_at 50 (by decide +kernel) rfl, tb_at 697 (by decide +kernel) rfl, by decide +kernel, by decide +kernel, by decide +kernel⟩
theorem mv_X9_begin : Cond.instanceMethod i_X9_begin.1 ∈ tw_tbl ∧ Cond.selects i_X9_begin.1.cls i_X9_begin.1 i_X9_begin.1 ∈ tw_tbl := ⟨tb_at 698 (by decide +kernel) rfl, tb_at 699 (by decide +kernel) rfl⟩
abbrev i_X11_spot : TMI := (yX11_spot, cX11_spot, 9, (some .int))
abbrev i_X0_begin : TMI := (yX0_begin, cX0_begin, 4, (some .int))
theorem mc_X0_21 : MCW RX0 21 i_X2_frames 0 := ⟨tb_at 307 (by decide +kernel) rfl, tb_at 40 (by decide +kernel) rfl, tb_at 725 (by decide +kernel) rfl, by decide +kernel, by decide +kernel, by decide +kernel⟩
theorem mc_X0_27 : MCW RX0 27 i_X0_isLoud 2 := ⟨tb_at 729 (by decide +kernel) rfl, tb_at 51 (by decide +kernel) rfl, tb_at 726 (by decide +kernel) rfl, by decide +kernel, by decide +kernel, by decide +kernel⟩
theorem mv_X0_isLoud : Cond.instanceMethod i_X0_isLoud.1 ∈ tw_tbl ∧ Cond.selects i_X0_isLoud.1.cls i_X0_isLoud.1 i_X0_isLoud.1 ∈ tw_tbl := ⟨tb_at 728 (by decide +kernel) rfl, tb_at 20 (by decide +kernel) rfl⟩
theorem gf_X0_15 : GF RX0 15 0 1 := ⟨RX0, TX0, 3, rfl, by decide, in_X0, tb_at 257 (by decide +kernel) rfl, rfl⟩
abbrev i_X0_endBehind : TMI := (yX0_endBehind, cX0_endBehind, 5, (some .int))
theorem gf_X0_18 : GF RX0 18 0 2 := ⟨RX0, TX0, 3, rfl, by decide, in_X0, tb_at 258 (by decide +kernel) rfl, rfl⟩
abbrev i_X10_speech : TMI := (yX10_speech, cX10_speech, 3, (some .int))
theorem mc_X10_220 : MCW RX10 220 i_X0_begin 1 := ⟨tb_at 724 (by decide +kernel) rfl, tb_at 51 (by decide +kernel) rfl, tb_at 721 (by decide +kernel) rfl, by decide +kernel, by decide +kernel, by decide +kernel⟩
theorem mv_X0_begin : Cond.instanceMethod i_X0_begin.1 ∈ tw_tbl ∧ Cond.selects i_X0_begin.1.cls i_X0_begin.1 i_X0_begin.1 ∈ tw_tbl := ⟨tb_at 722 (by decide +kernel) rfl, tb_at 723 (by decide +kernel) rfl⟩
theorem mc_X10_222 : MCW RX10 222 i_X0_endBehind 2 := ⟨tb_at 734 (by decide +kernel) rfl, tb_at 51 (by decide +kernel) rfl, tb_at 731 (by decide +kernel) rfl, by decide +kernel, by decide +kernel, by decide +kernel⟩
theorem mv_X0_endBehind : Cond.instanceMethod i_X0_endBehind.1 ∈ tw_tbl ∧ Cond.selects i_X0_endBehind.1.cls i_X0_endBehind.1 i_X0_endBehind.1 ∈ tw_tbl := ⟨tb_at 732 (by decide +kernel) rfl, tb_at 733 (by decide +kernel) rfl⟩
abbrev i_X11_firstOf : TMI := (yX11_firstOf, cX11_firstOf, 6, (some .int))
theorem gf_X11_53 : GF RX11 53 11 19 := ⟨RX11, TX11, 32, rfl, by decide, in_X11, tb_at 764 (by decide +kernel) rfl, rfl⟩
abbrev i_X11_speech : TMI := (yX11_speech, cX11_speech, 4, (some .int))
theorem gf_X11_56 : GF RX11 56 11 20 := ⟨RX11, TX11, 32, rfl, by decide, in_X11, tb_at 765 (by decide +kernel) rfl, rfl⟩
theorem mc_X11_182 : MCW RX11 182 i_X11_firstOf 3 := ⟨tb_at 1017 (by decide +kernel) rfl, tb_at 52 (by decide +kernel) rfl, tb_at 1014 (by decide +kernel) rfl, by decide +kernel, by decide +kernel, by decide +kernel⟩
theorem mv_X11_firstOf : Cond.instanceMethod i_X11_firstOf.1 ∈ tw_tbl ∧ Cond.selects i_X11_firstOf.1.cls i_X11_firstOf.1 i_X11_firstOf.1 ∈ tw_tbl := ⟨tb_at 1016 (by decide +kernel) rfl, tb_at 37 (by decide +kernel) rfl⟩
theorem gf_X11_59 : GF RX11 59 11 21 := ⟨RX11, TX11, 32, rfl, by decide, in_X11, tb_at 766 (by decide +kernel) rfl, rfl⟩
