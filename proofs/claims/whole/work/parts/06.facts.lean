theorem gf_X2_20 : GF RX2 20 2 2 := ⟨RX2, TX2, 4, rfl, by decide, in_X2, tb_at 74 (by decide +kernel) rfl, rfl⟩
theorem sh_1 : shp[1]? = some (.inl (2, [some 2, some 3, none, none])) := by decide +kernel
abbrev i_X2_frames : TMI := (yX2_frames, cX2_frames, 1, (some .int))
theorem gp_X6_44 : GP RX6 44 6 6 .boolean := ⟨RX6, TX6, 7, tyX6, rfl, by decide, in_X6, tb_at 155 (by decide +kernel) rfl, rfl, tyX6_ok, nmX6, rfl, by decide +kernel⟩
theorem sh_40 : shp[40]? = some (.inl (6, [some 41, some 82, some 99, some 100, some 104, none, none])) := by decide +kernel
abbrev i_X6_end : TMI := (yX6_end, cX6_end, 1, none)
theorem gp_X3_30 : GP RX3 30 3 5 .boolean := ⟨RX3, TX3, 6, tyX3, rfl, by decide, in_X3, tb_at 185 (by decide +kernel) rfl, rfl, tyX3_ok, nmX3, rfl, by decide +kernel⟩
theorem sh_108 : shp[108]? = some (.inl (3, [some 109, some 110, some 111, some 153, none, none])) := by decide +kernel
abbrev i_X3_end : TMI := (yX3_end, cX3_end, 1, none)
theorem gf_X10_26 : GF RX10 26 10 2 := ⟨RX10, TX10, 9, rfl, by decide, in_X10, tb_at 268 (by decide +kernel) rfl, rfl⟩
theorem sh_0 : shp[0]? = some (.inl (10, [some 1, some 10, some 40, some 106, some 108, some 154, some 156, some 181, some 186])) := by decide +kernel
theorem mc_X10_226 : MCW RX10 226 i_X6_end 0 := ⟨tb_at 315 (by decide +kernel) rfl, tb_at 43 (by decide +kernel) rfl, tb_at 312 (by decide +kernel) rfl, by decide +kernel, by decide +kernel, by decide +kernel⟩
theorem mv_X6_end : Cond.instanceMethod i_X6_end.1 ∈ tw_tbl ∧ Cond.selects i_X6_end.1.cls i_X6_end.1 i_X6_end.1 ∈ tw_tbl := ⟨tb_at 313 (by decide +kernel) rfl, tb_at 314 (by decide +kernel) rfl⟩
theorem gf_X10_42 : GF RX10 42 10 4 := ⟨RX10, TX10, 9, rfl, by decide, in_X10, tb_at 270 (by decide +kernel) rfl, rfl⟩
theorem mc_X10_164 : MCW RX10 164 i_X3_end 0 := ⟨tb_at 319 (by decide +kernel) rfl, tb_at 47 (by decide +kernel) rfl, tb_at 316 (by decide +kernel) rfl, by decide +kernel, by decide +kernel, by decide +kernel⟩
theorem mv_X3_end : Cond.instanceMethod i_X3_end.1 ∈ tw_tbl ∧ Cond.selects i_X3_end.1.cls i_X3_end.1 i_X3_end.1 ∈ tw_tbl := ⟨tb_at 317 (by decide +kernel) rfl, tb_at 318 (by decide +kernel) rfl⟩
abbrev i_X10_endWhatLeansOnThis : TMI := (yX10_endWhatLeansOnThis, cX10_endWhatLeansOnThis, 1, none)
theorem gf_X2_9 : GF RX2 9 2 0 := ⟨RX2, TX2, 4, rfl, by decide, in_X2, tb_at 72 (by decide +kernel) rfl, rfl⟩
theorem sh_2 : shp[2]? = some (.inr (.inl 40)) := by decide +kernel
theorem gp_X2_20 : GP RX2 20 2 2 .int := ⟨RX2, TX2, 4, tyX2, rfl, by decide, in_X2, tb_at 74 (by decide +kernel) rfl, rfl, tyX2_ok, nmX2, rfl, by decide +kernel⟩
abbrev i_X2_add : TMI := (yX2_add, cX2_add, 2, none)
abbrev i_X10_within : TMI := (yX10_within, cX10_within, 3, (some .boolean))
theorem mc_X10_94 : MCW RX10 94 i_X10_within 3 := ⟨tb_at 303 (by decide +kernel) rfl, tb_at 39 (by decide +kernel) rfl, tb_at 301 (by decide +kernel) rfl, by decide +kernel, by decide +kernel, by decide +kernel⟩
theorem mst_X10_within : Cond.static i_X10_within.1 ∈ tw_tbl := tb_at 302 (by decide +kernel) rfl
abbrev i_X10_isMark : TMI := (yX10_isMark, cX10_isMark, 1, (some .boolean))
theorem gf_X10_10 : GF RX10 10 10 0 := ⟨RX10, TX10, 9, rfl, by decide, in_X10, tb_at 266 (by decide +kernel) rfl, rfl⟩
theorem mc_X10_78 : MCW RX10 78 i_X2_frames 0 := ⟨tb_at 307 (by decide +kernel) rfl, tb_at 40 (by decide +kernel) rfl, tb_at 304 (by decide +kernel) rfl, by decide +kernel, by decide +kernel, by decide +kernel⟩
theorem mv_X2_frames : Cond.instanceMethod i_X2_frames.1 ∈ tw_tbl ∧ Cond.selects i_X2_frames.1.cls i_X2_frames.1 i_X2_frames.1 ∈ tw_tbl := ⟨tb_at 305 (by decide +kernel) rfl, tb_at 306 (by decide +kernel) rfl⟩
theorem mc_X10_82 : MCW RX10 82 i_X10_endWhatLeansOnThis 0 := ⟨tb_at 311 (by decide +kernel) rfl, tb_at 39 (by decide +kernel) rfl, tb_at 308 (by decide +kernel) rfl, by decide +kernel, by decide +kernel, by decide +kernel⟩
theorem mv_X10_endWhatLeansOnThis : Cond.instanceMethod i_X10_endWhatLeansOnThis.1 ∈ tw_tbl ∧ Cond.selects i_X10_endWhatLeansOnThis.1.cls i_X10_endWhatLeansOnThis.1 i_X10_endWhatLeansOnThis.1 ∈ tw_tbl := ⟨tb_at 310 (by decide +kernel) rfl, tb_at 0 (by decide +kernel) rfl⟩
theorem mc_X10_85 : MCW RX10 85 i_X2_add 1 := ⟨tb_at 323 (by decide +kernel) rfl, tb_at 40 (by decide +kernel) rfl, tb_at 320 (by decide +kernel) rfl, by decide +kernel, by decide +kernel, by decide +kernel⟩
theorem mv_X2_add : Cond.instanceMethod i_X2_add.1 ∈ tw_tbl ∧ Cond.selects i_X2_add.1.cls i_X2_add.1 i_X2_add.1 ∈ tw_tbl := ⟨tb_at 321 (by decide +kernel) rfl, tb_at 322 (by decide +kernel) rfl⟩
theorem mc_X10_74 : MCW RX10 74 i_X10_isMark 1 := ⟨tb_at 300 (by decide +kernel) rfl, tb_at 39 (by decide +kernel) rfl, tb_at 298 (by decide +kernel) rfl, by decide +kernel, by decide +kernel, by decide +kernel⟩
theorem mst_X10_isMark : Cond.static i_X10_isMark.1 ∈ tw_tbl := tb_at 299 (by decide +kernel) rfl
abbrev i_X10_feed : TMI := (yX10_feed, cX10_feed, 2, (some .int))
abbrev i_X11_in : TMI := (yX11_in, cX11_in, 3, (some .boolean))
theorem mc_X11_89 : MCW RX11 89 i_X11_in 3 := ⟨tb_at 848 (by decide +kernel) rfl, tb_at 52 (by decide +kernel) rfl, tb_at 846 (by decide +kernel) rfl, by decide +kernel, by decide +kernel, by decide +kernel⟩
theorem mst_X11_in : Cond.static i_X11_in.1 ∈ tw_tbl := tb_at 847 (by decide +kernel) rfl
theorem gf_X11_93 : GF RX11 93 11 0 := ⟨RX11, TX11, 32, rfl, by decide, in_X11, tb_at 745 (by decide +kernel) rfl, rfl⟩
theorem sh_187 : shp[187]? = some (.inl (11, [none, some 188, some 189, none, none, some 190, some 191, some 192, some 193, none, some 194, none, some 195, some 196, some 197, some 198, none, some 199, some 200, none, none, none, some 201, some 202, some 203, some 204, none, some 205, some 206, some 207, some 208, some 209])) := by decide +kernel
theorem gf_X11_7 : GF RX11 7 11 1 := ⟨RX11, TX11, 32, rfl, by decide, in_X11, tb_at 746 (by decide +kernel) rfl, rfl⟩
theorem sh_188 : shp[188]? = some (.inr (.inl 40)) := by decide +kernel
theorem gp_X11_93 : GP RX11 93 11 0 .int := ⟨RX11, TX11, 32, tyX11, rfl, by decide, in_X11, tb_at 745 (by decide +kernel) rfl, rfl, tyX11_ok, nmX11, rfl, by decide +kernel⟩
theorem gp_X11_96 : GP RX11 96 11 11 .boolean := ⟨RX11, TX11, 32, tyX11, rfl, by decide, in_X11, tb_at 756 (by decide +kernel) rfl, rfl, tyX11_ok, nmX11, rfl, by decide +kernel⟩
abbrev i_X11_feed : TMI := (yX11_feed, cX11_feed, 2, (some .int))
abbrev i_X2_clear : TMI := (yX2_clear, cX2_clear, 1, none)
theorem mc_X10_88 : MCW RX10 88 i_X2_clear 0 := ⟨tb_at 331 (by decide +kernel) rfl, tb_at 40 (by decide +kernel) rfl, tb_at 328 (by decide +kernel) rfl, by decide +kernel, by decide +kernel, by decide +kernel⟩
theorem mv_X2_clear : Cond.instanceMethod i_X2_clear.1 ∈ tw_tbl ∧ Cond.selects i_X2_clear.1.cls i_X2_clear.1 i_X2_clear.1 ∈ tw_tbl := ⟨tb_at 329 (by decide +kernel) rfl, tb_at 330 (by decide +kernel) rfl⟩
abbrev i_X10_hush : TMI := (yX10_hush, cX10_hush, 2, (some .int))
abbrev i_X11_hush : TMI := (yX11_hush, cX11_hush, 2, (some .int))
abbrev i_X10_isSound : TMI := (yX10_isSound, cX10_isSound, 1, (some .boolean))
theorem gf_X2_17 : GF RX2 17 2 1 := ⟨RX2, TX2, 4, rfl, by decide, in_X2, tb_at 73 (by decide +kernel) rfl, rfl⟩
theorem sh_3 : shp[3]? = some (.inr (.inr (6, 4))) := by decide +kernel
theorem shr_3 : ∀ j, j < 6 → shp[4 + j]? = some (.inr (.inl 8)) := fun j hj => of_decide_eq_true (List.all_eq_true.mp (show (List.range 6).all (fun j => decide (shp[4 + j]? = some (.inr (.inl 8)))) = true by decide +kernel) j (List.mem_range.mpr hj))
abbrev i_X2_costOf : TMI := (yX2_costOf, cX2_costOf, 3, (some .int))
abbrev i_X2_setCost : TMI := (yX2_setCost, cX2_setCost, 4, none)
theorem mc_X10_91 : MCW RX10 91 i_X10_isSound 1 := ⟨tb_at 338 (by decide +kernel) rfl, tb_at 39 (by decide +kernel) rfl, tb_at 336 (by decide +kernel) rfl, by decide +kernel, by decide +kernel, by decide +kernel⟩
theorem mst_X10_isSound : Cond.static i_X10_isSound.1 ∈ tw_tbl := tb_at 337 (by decide +kernel) rfl
theorem mc_X10_98 : MCW RX10 98 i_X2_costOf 2 := ⟨tb_at 342 (by decide +kernel) rfl, tb_at 40 (by decide +kernel) rfl, tb_at 339 (by decide +kernel) rfl, by decide +kernel, by decide +kernel, by decide +kernel⟩
theorem mv_X2_costOf : Cond.instanceMethod i_X2_costOf.1 ∈ tw_tbl ∧ Cond.selects i_X2_costOf.1.cls i_X2_costOf.1 i_X2_costOf.1 ∈ tw_tbl := ⟨tb_at 340 (by decide +kernel) rfl, tb_at 341 (by decide +kernel) rfl⟩
theorem mc_X10_102 : MCW RX10 102 i_X2_setCost 3 := ⟨tb_at 346 (by decide +kernel) rfl, tb_at 40 (by decide +kernel) rfl, tb_at 343 (by decide +kernel) rfl, by decide +kernel, by decide +kernel, by decide +kernel⟩
theorem mv_X2_setCost : Cond.instanceMethod i_X2_setCost.1 ∈ tw_tbl ∧ Cond.selects i_X2_setCost.1.cls i_X2_setCost.1 i_X2_setCost.1 ∈ tw_tbl := ⟨tb_at 344 (by decide +kernel) rfl, tb_at 345 (by decide +kernel) rfl⟩
abbrev i_X10_cost : TMI := (yX10_cost, cX10_cost, 5, (some .int))
theorem gf_X11_13 : GF RX11 13 11 2 := ⟨RX11, TX11, 32, rfl, by decide, in_X11, tb_at 747 (by decide +kernel) rfl, rfl⟩
theorem sh_189 : shp[189]? = some (.inr (.inl 48)) := by decide +kernel
abbrev i_X11_cost : TMI := (yX11_cost, cX11_cost, 5, (some .int))
theorem gf_X2_24 : GF RX2 24 2 3 := ⟨RX2, TX2, 4, rfl, by decide, in_X2, tb_at 75 (by decide +kernel) rfl, rfl⟩
abbrev i_X2_stayCost : TMI := (yX2_stayCost, cX2_stayCost, 1, (some .int))
theorem gp_X2_24 : GP RX2 24 2 3 .int := ⟨RX2, TX2, 4, tyX2, rfl, by decide, in_X2, tb_at 75 (by decide +kernel) rfl, rfl, tyX2_ok, nmX2, rfl, by decide +kernel⟩
abbrev i_X2_setStayCost : TMI := (yX2_setStayCost, cX2_setStayCost, 2, none)
theorem mc_X10_106 : MCW RX10 106 i_X2_stayCost 0 := ⟨tb_at 354 (by decide +kernel) rfl, tb_at 40 (by decide +kernel) rfl, tb_at 351 (by decide +kernel) rfl, by decide +kernel, by decide +kernel, by decide +kernel⟩
theorem mv_X2_stayCost : Cond.instanceMethod i_X2_stayCost.1 ∈ tw_tbl ∧ Cond.selects i_X2_stayCost.1.cls i_X2_stayCost.1 i_X2_stayCost.1 ∈ tw_tbl := ⟨tb_at 352 (by decide +kernel) rfl, tb_at 353 (by decide +kernel) rfl⟩
theorem mc_X10_109 : MCW RX10 109 i_X2_setStayCost 1 := ⟨tb_at 358 (by decide +kernel) rfl, tb_at 40 (by decide +kernel) rfl, tb_at 355 (by decide +kernel) rfl, by decide +kernel, by decide +kernel, by decide +kernel⟩
theorem mv_X2_setStayCost : Cond.instanceMethod i_X2_setStayCost.1 ∈ tw_tbl ∧ Cond.selects i_X2_setStayCost.1.cls i_X2_setStayCost.1 i_X2_setStayCost.1 ∈ tw_tbl := ⟨tb_at 356 (by decide +kernel) rfl, tb_at 357 (by decide +kernel) rfl⟩
abbrev i_X10_stay : TMI := (yX10_stay, cX10_stay, 3, (some .int))
theorem gf_X11_16 : GF RX11 16 11 3 := ⟨RX11, TX11, 32, rfl, by decide, in_X11, tb_at 748 (by decide +kernel) rfl, rfl⟩
theorem gp_X11_16 : GP RX11 16 11 3 .int := ⟨RX11, TX11, 32, tyX11, rfl, by decide, in_X11, tb_at 748 (by decide +kernel) rfl, rfl, tyX11_ok, nmX11, rfl, by decide +kernel⟩
abbrev i_X11_stay : TMI := (yX11_stay, cX11_stay, 3, (some .int))
abbrev i_X10_mayFollow : TMI := (yX10_mayFollow, cX10_mayFollow, 2, (some .boolean))
theorem mc_X10_227 : MCW RX10 227 i_X10_mayFollow 2 := ⟨tb_at 368 (by decide +kernel) rfl, tb_at 39 (by decide +kernel) rfl, tb_at 366 (by decide +kernel) rfl, by decide +kernel, by decide +kernel, by decide +kernel⟩
theorem mst_X10_mayFollow : Cond.static i_X10_mayFollow.1 ∈ tw_tbl := tb_at 367 (by decide +kernel) rfl
abbrev i_X10_areSounds : TMI := (yX10_areSounds, cX10_areSounds, 4, (some .boolean))
theorem gf_X5_26 : GF RX5 26 5 4 := ⟨RX5, TX5, 5, rfl, by decide, in_X5, tb_at 97 (by decide +kernel) rfl, rfl⟩
theorem sh_10 : shp[10]? = some (.inl (5, [some 11, some 28, some 29, some 30, none])) := by decide +kernel
abbrev i_X5_words : TMI := (yX5_words, cX5_words, 1, (some .int))
theorem gp_X5_26 : GP RX5 26 5 4 .int := ⟨RX5, TX5, 5, tyX5, rfl, by decide, in_X5, tb_at 97 (by decide +kernel) rfl, rfl, tyX5_ok, nmX5, rfl, by decide +kernel⟩
abbrev i_X5_addWord : TMI := (yX5_addWord, cX5_addWord, 1, none)
theorem gf_X5_16 : GF RX5 16 5 1 := ⟨RX5, TX5, 5, rfl, by decide, in_X5, tb_at 94 (by decide +kernel) rfl, rfl⟩
theorem sh_28 : shp[28]? = some (.inr (.inl 16)) := by decide +kernel
theorem gf_X5_11 : GF RX5 11 5 0 := ⟨RX5, TX5, 5, rfl, by decide, in_X5, tb_at 93 (by decide +kernel) rfl, rfl⟩
theorem sh_11 : shp[11]? = some (.inr (.inr (16, 12))) := by decide +kernel
theorem shr_11 : ∀ j, j < 16 → shp[12 + j]? = some (.inr (.inl 4)) := fun j hj => of_decide_eq_true (List.all_eq_true.mp (show (List.range 16).all (fun j => decide (shp[12 + j]? = some (.inr (.inl 4)))) = true by decide +kernel) j (List.mem_range.mpr hj))
abbrev i_X5_append : TMI := (yX5_append, cX5_append, 3, none)
theorem gf_X5_20 : GF RX5 20 5 2 := ⟨RX5, TX5, 5, rfl, by decide, in_X5, tb_at 95 (by decide +kernel) rfl, rfl⟩
theorem sh_29 : shp[29]? = some (.inr (.inl 8)) := by decide +kernel
theorem mc_X5_30 : MCW RX5 30 i_X5_append 2 := ⟨tb_at 384 (by decide +kernel) rfl, tb_at 42 (by decide +kernel) rfl, tb_at 381 (by decide +kernel) rfl, by decide +kernel, by decide +kernel, by decide +kernel⟩
theorem mv_X5_append : Cond.instanceMethod i_X5_append.1 ∈ tw_tbl ∧ Cond.selects i_X5_append.1.cls i_X5_append.1 i_X5_append.1 ∈ tw_tbl := ⟨tb_at 383 (by decide +kernel) rfl, tb_at 1 (by decide +kernel) rfl⟩
abbrev i_X5_addWay : TMI := (yX5_addWay, cX5_addWay, 7, none)
theorem mc_X10_112 : MCW RX10 112 i_X10_areSounds 4 := ⟨tb_at 365 (by decide +kernel) rfl, tb_at 39 (by decide +kernel) rfl, tb_at 363 (by decide +kernel) rfl, by decide +kernel, by decide +kernel, by decide +kernel⟩
theorem mst_X10_areSounds : Cond.static i_X10_areSounds.1 ∈ tw_tbl := tb_at 364 (by decide +kernel) rfl
theorem gf_X10_19 : GF RX10 19 10 1 := ⟨RX10, TX10, 9, rfl, by decide, in_X10, tb_at 267 (by decide +kernel) rfl, rfl⟩
theorem mc_X10_116 : MCW RX10 116 i_X5_words 0 := ⟨tb_at 372 (by decide +kernel) rfl, tb_at 42 (by decide +kernel) rfl, tb_at 369 (by decide +kernel) rfl, by decide +kernel, by decide +kernel, by decide +kernel⟩
theorem mv_X5_words : Cond.instanceMethod i_X5_words.1 ∈ tw_tbl ∧ Cond.selects i_X5_words.1.cls i_X5_words.1 i_X5_words.1 ∈ tw_tbl := ⟨tb_at 370 (by decide +kernel) rfl, tb_at 371 (by decide +kernel) rfl⟩
theorem mc_X10_119 : MCW RX10 119 i_X5_addWord 0 := ⟨tb_at 376 (by decide +kernel) rfl, tb_at 42 (by decide +kernel) rfl, tb_at 373 (by decide +kernel) rfl, by decide +kernel, by decide +kernel, by decide +kernel⟩
theorem mv_X5_addWord : Cond.instanceMethod i_X5_addWord.1 ∈ tw_tbl ∧ Cond.selects i_X5_addWord.1.cls i_X5_addWord.1 i_X5_addWord.1 ∈ tw_tbl := ⟨tb_at 374 (by decide +kernel) rfl, tb_at 375 (by decide +kernel) rfl⟩
theorem mc_X10_122 : MCW RX10 122 i_X5_addWay 5 := ⟨tb_at 380 (by decide +kernel) rfl, tb_at 42 (by decide +kernel) rfl, tb_at 377 (by decide +kernel) rfl, by decide +kernel, by decide +kernel, by decide +kernel⟩
theorem mv_X5_addWay : Cond.instanceMethod i_X5_addWay.1 ∈ tw_tbl ∧ Cond.selects i_X5_addWay.1.cls i_X5_addWay.1 i_X5_addWay.1 ∈ tw_tbl := ⟨tb_at 378 (by decide +kernel) rfl, tb_at 379 (by decide +kernel) rfl⟩
abbrev i_X10_word : TMI := (yX10_word, cX10_word, 6, (some .int))
abbrev i_X11_manyOf : TMI := (yX11_manyOf, cX11_manyOf, 5, (some .int))
theorem gf_X11_23 : GF RX11 23 11 6 := ⟨RX11, TX11, 32, rfl, by decide, in_X11, tb_at 751 (by decide +kernel) rfl, rfl⟩
theorem sh_191 : shp[191]? = some (.inr (.inl 16)) := by decide +kernel
theorem gf_X11_26 : GF RX11 26 11 7 := ⟨RX11, TX11, 32, rfl, by decide, in_X11, tb_at 752 (by decide +kernel) rfl, rfl⟩
theorem sh_192 : shp[192]? = some (.inr (.inl 64)) := by decide +kernel
abbrev i_X11_layWay : TMI := (yX11_layWay, cX11_layWay, 7, none)
theorem mc_X11_100 : MCW RX11 100 i_X11_manyOf 4 := ⟨tb_at 867 (by decide +kernel) rfl, tb_at 52 (by decide +kernel) rfl, tb_at 865 (by decide +kernel) rfl, by decide +kernel, by decide +kernel, by decide +kernel⟩
theorem mst_X11_manyOf : Cond.static i_X11_manyOf.1 ∈ tw_tbl := tb_at 866 (by decide +kernel) rfl
theorem gf_X11_104 : GF RX11 104 11 4 := ⟨RX11, TX11, 32, rfl, by decide, in_X11, tb_at 749 (by decide +kernel) rfl, rfl⟩
theorem mc_X11_107 : MCW RX11 107 i_X11_layWay 6 := ⟨tb_at 871 (by decide +kernel) rfl, tb_at 52 (by decide +kernel) rfl, tb_at 868 (by decide +kernel) rfl, by decide +kernel, by decide +kernel, by decide +kernel⟩
theorem mv_X11_layWay : Cond.instanceMethod i_X11_layWay.1 ∈ tw_tbl ∧ Cond.selects i_X11_layWay.1.cls i_X11_layWay.1 i_X11_layWay.1 ∈ tw_tbl := ⟨tb_at 870 (by decide +kernel) rfl, tb_at 21 (by decide +kernel) rfl⟩
theorem gf_X11_20 : GF RX11 20 11 5 := ⟨RX11, TX11, 32, rfl, by decide, in_X11, tb_at 750 (by decide +kernel) rfl, rfl⟩
theorem sh_190 : shp[190]? = some (.inr (.inl 8)) := by decide +kernel
theorem gp_X11_104 : GP RX11 104 11 4 .int := ⟨RX11, TX11, 32, tyX11, rfl, by decide, in_X11, tb_at 749 (by decide +kernel) rfl, rfl, tyX11_ok, nmX11, rfl, by decide +kernel⟩
abbrev i_X11_word : TMI := (yX11_word, cX11_word, 6, (some .int))
abbrev i_X10_isWord : TMI := (yX10_isWord, cX10_isWord, 2, (some .boolean))
abbrev i_X5_waysOf : TMI := (yX5_waysOf, cX5_waysOf, 2, (some .int))
theorem mc_X10_126 : MCW RX10 126 i_X10_isWord 1 := ⟨tb_at 392 (by decide +kernel) rfl, tb_at 39 (by decide +kernel) rfl, tb_at 389 (by decide +kernel) rfl, by decide +kernel, by decide +kernel, by decide +kernel⟩
theorem mv_X10_isWord : Cond.instanceMethod i_X10_isWord.1 ∈ tw_tbl ∧ Cond.selects i_X10_isWord.1.cls i_X10_isWord.1 i_X10_isWord.1 ∈ tw_tbl := ⟨tb_at 391 (by decide +kernel) rfl, tb_at 2 (by decide +kernel) rfl⟩
theorem mc_X10_129 : MCW RX10 129 i_X5_waysOf 1 := ⟨tb_at 396 (by decide +kernel) rfl, tb_at 42 (by decide +kernel) rfl, tb_at 393 (by decide +kernel) rfl, by decide +kernel, by decide +kernel, by decide +kernel⟩
theorem mv_X5_waysOf : Cond.instanceMethod i_X5_waysOf.1 ∈ tw_tbl ∧ Cond.selects i_X5_waysOf.1.cls i_X5_waysOf.1 i_X5_waysOf.1 ∈ tw_tbl := ⟨tb_at 394 (by decide +kernel) rfl, tb_at 395 (by decide +kernel) rfl⟩
abbrev i_X10_way : TMI := (yX10_way, cX10_way, 6, (some .int))
abbrev i_X11_isWord : TMI := (yX11_isWord, cX11_isWord, 2, (some .boolean))
theorem mc_X11_111 : MCW RX11 111 i_X11_isWord 1 := ⟨tb_at 879 (by decide +kernel) rfl, tb_at 52 (by decide +kernel) rfl, tb_at 876 (by decide +kernel) rfl, by decide +kernel, by decide +kernel, by decide +kernel⟩
theorem mv_X11_isWord : Cond.instanceMethod i_X11_isWord.1 ∈ tw_tbl ∧ Cond.selects i_X11_isWord.1.cls i_X11_isWord.1 i_X11_isWord.1 ∈ tw_tbl := ⟨tb_at 878 (by decide +kernel) rfl, tb_at 22 (by decide +kernel) rfl⟩
abbrev i_X11_way : TMI := (yX11_way, cX11_way, 7, (some .int))
abbrev i_X10_isWordOrEdge : TMI := (yX10_isWordOrEdge, cX10_isWordOrEdge, 2, (some .boolean))
theorem gf_X5_23 : GF RX5 23 5 3 := ⟨RX5, TX5, 5, rfl, by decide, in_X5, tb_at 96 (by decide +kernel) rfl, rfl⟩
theorem sh_30 : shp[30]? = some (.inr (.inr (9, 31))) := by decide +kernel
theorem shr_30 : ∀ j, j < 9 → shp[31 + j]? = some (.inr (.inl 9)) := fun j hj => of_decide_eq_true (List.all_eq_true.mp (show (List.range 9).all (fun j => decide (shp[31 + j]? = some (.inr (.inl 9)))) = true by decide +kernel) j (List.mem_range.mpr hj))
abbrev i_X5_grammarOf : TMI := (yX5_grammarOf, cX5_grammarOf, 3, (some .int))
abbrev i_X5_setGrammar : TMI := (yX5_setGrammar, cX5_setGrammar, 4, none)
theorem mc_X10_133 : MCW RX10 133 i_X10_isWordOrEdge 1 := ⟨tb_at 404 (by decide +kernel) rfl, tb_at 39 (by decide +kernel) rfl, tb_at 401 (by decide +kernel) rfl, by decide +kernel, by decide +kernel, by decide +kernel⟩
theorem mv_X10_isWordOrEdge : Cond.instanceMethod i_X10_isWordOrEdge.1 ∈ tw_tbl ∧ Cond.selects i_X10_isWordOrEdge.1.cls i_X10_isWordOrEdge.1 i_X10_isWordOrEdge.1 ∈ tw_tbl := ⟨tb_at 403 (by decide +kernel) rfl, tb_at 3 (by decide +kernel) rfl⟩
theorem mc_X10_136 : MCW RX10 136 i_X5_grammarOf 2 := ⟨tb_at 408 (by decide +kernel) rfl, tb_at 42 (by decide +kernel) rfl, tb_at 405 (by decide +kernel) rfl, by decide +kernel, by decide +kernel, by decide +kernel⟩
theorem mv_X5_grammarOf : Cond.instanceMethod i_X5_grammarOf.1 ∈ tw_tbl ∧ Cond.selects i_X5_grammarOf.1.cls i_X5_grammarOf.1 i_X5_grammarOf.1 ∈ tw_tbl := ⟨tb_at 406 (by decide +kernel) rfl, tb_at 407 (by decide +kernel) rfl⟩
theorem mc_X10_139 : MCW RX10 139 i_X5_setGrammar 3 := ⟨tb_at 412 (by decide +kernel) rfl, tb_at 42 (by decide +kernel) rfl, tb_at 409 (by decide +kernel) rfl, by decide +kernel, by decide +kernel, by decide +kernel⟩
theorem mv_X5_setGrammar : Cond.instanceMethod i_X5_setGrammar.1 ∈ tw_tbl ∧ Cond.selects i_X5_setGrammar.1.cls i_X5_setGrammar.1 i_X5_setGrammar.1 ∈ tw_tbl := ⟨tb_at 410 (by decide +kernel) rfl, tb_at 411 (by decide +kernel) rfl⟩
abbrev i_X10_grammar : TMI := (yX10_grammar, cX10_grammar, 5, (some .int))
theorem gf_X11_29 : GF RX11 29 11 8 := ⟨RX11, TX11, 32, rfl, by decide, in_X11, tb_at 753 (by decide +kernel) rfl, rfl⟩
theorem sh_193 : shp[193]? = some (.inr (.inl 81)) := by decide +kernel
abbrev i_X11_behind : TMI := (yX11_behind, cX11_behind, 3, (some .int))
theorem mc_X11_115 : MCW RX11 115 i_X11_behind 2 := ⟨tb_at 887 (by decide +kernel) rfl, tb_at 52 (by decide +kernel) rfl, tb_at 884 (by decide +kernel) rfl, by decide +kernel, by decide +kernel, by decide +kernel⟩
theorem mv_X11_behind : Cond.instanceMethod i_X11_behind.1 ∈ tw_tbl ∧ Cond.selects i_X11_behind.1.cls i_X11_behind.1 i_X11_behind.1 ∈ tw_tbl := ⟨tb_at 886 (by decide +kernel) rfl, tb_at 23 (by decide +kernel) rfl⟩
abbrev i_X11_grammar : TMI := (yX11_grammar, cX11_grammar, 5, (some .int))
theorem mc_X5_34 : MCW RX5 34 i_X5_grammarOf 2 := ⟨tb_at 408 (by decide +kernel) rfl, tb_at 42 (by decide +kernel) rfl, tb_at 432 (by decide +kernel) rfl, by decide +kernel, by decide +kernel, by decide +kernel⟩
theorem lc_X5_38 : Cond.constant RX5 38 1000000 ∈ tw_tbl := tb_at 433 (by decide +kernel) rfl
abbrev i_X5_joint : TMI := (yX5_joint, cX5_joint, 4, (some .int))
abbrev i_X5_lengthOf : TMI := (yX5_lengthOf, cX5_lengthOf, 3, (some .int))
abbrev i_X5_soundOf : TMI := (yX5_soundOf, cX5_soundOf, 4, (some .int))
abbrev i_X2_costAt : TMI := (yX2_costAt, cX2_costAt, 3, (some .int))
theorem gp_X7_9 : GP RX7 9 7 1 .int := ⟨RX7, TX7, 2, tyX7, rfl, by decide, in_X7, tb_at 142 (by decide +kernel) rfl, rfl, tyX7_ok, nmX7, rfl, by decide +kernel⟩
theorem sh_104 : shp[104]? = some (.inl (7, [some 105, none])) := by decide +kernel
abbrev i_X7_clear : TMI := (yX7_clear, cX7_clear, 1, none)
theorem gf_X7_9 : GF RX7 9 7 1 := ⟨RX7, TX7, 2, rfl, by decide, in_X7, tb_at 142 (by decide +kernel) rfl, rfl⟩
theorem gf_X7_21 : GF RX7 21 7 0 := ⟨RX7, TX7, 2, rfl, by decide, in_X7, tb_at 141 (by decide +kernel) rfl, rfl⟩
theorem sh_105 : shp[105]? = some (.inr (.inl 40)) := by decide +kernel
abbrev i_X7_add : TMI := (yX7_add, cX7_add, 2, none)
theorem gf_X8_15 : GF RX8 15 8 1 := ⟨RX8, TX8, 3, rfl, by decide, in_X8, tb_at 123 (by decide +kernel) rfl, rfl⟩
theorem sh_100 : shp[100]? = some (.inl (8, [some 101, some 102, some 103])) := by decide +kernel
theorem sh_102 : shp[102]? = some (.inr (.inl 41)) := by decide +kernel
abbrev i_X8_endAt : TMI := (yX8_endAt, cX8_endAt, 2, (some .int))
theorem gf_X8_9 : GF RX8 9 8 0 := ⟨RX8, TX8, 3, rfl, by decide, in_X8, tb_at 122 (by decide +kernel) rfl, rfl⟩
theorem lc_X8_21 : Cond.constant RX8 21 1000000 ∈ tw_tbl := tb_at 479 (by decide +kernel) rfl
theorem mm_X8_28 : Cond.methodLink RX8 28 Lib.Math.min.name ∈ tw_tbl ∧ Cond.static Lib.Math.min.name ∈ tw_tbl ∧ Cond.initialized "java/lang/Math" ∈ tw_tbl ∧ Cond.code Lib.Math.min.name Lib.Math.min.code 2 (some .int) ∈ tw_tbl := ⟨tb_at 480 (by decide +kernel) rfl, tb_at 439 (by decide +kernel) rfl, tb_at 46 (by decide +kernel) rfl, tb_at 440 (by decide +kernel) rfl⟩
theorem sh_101 : shp[101]? = some (.inr (.inl 41)) := by decide +kernel
abbrev i_X8_start : TMI := (yX8_start, cX8_start, 3, none)
theorem gf_X6_40 : GF RX6 40 6 5 := ⟨RX6, TX6, 7, rfl, by decide, in_X6, tb_at 154 (by decide +kernel) rfl, rfl⟩
abbrev i_X6_cheapest : TMI := (yX6_cheapest, cX6_cheapest, 1, (some .int))
abbrev i_X11_onAt : TMI := (yX11_onAt, cX11_onAt, 3, (some .int))
abbrev i_X11_lesser : TMI := (yX11_lesser, cX11_lesser, 2, (some .int))
abbrev i_X11_costOf : TMI := (yX11_costOf, cX11_costOf, 3, (some .int))
theorem gf_X11_71 : GF RX11 71 11 25 := ⟨RX11, TX11, 32, rfl, by decide, in_X11, tb_at 770 (by decide +kernel) rfl, rfl⟩
theorem sh_204 : shp[204]? = some (.inr (.inl 369)) := by decide +kernel
abbrev i_X11_restAt : TMI := (yX11_restAt, cX11_restAt, 3, (some .int))
theorem gf_X6_35 : GF RX6 35 6 4 := ⟨RX6, TX6, 7, rfl, by decide, in_X6, tb_at 153 (by decide +kernel) rfl, rfl⟩
abbrev i_X6_row : TMI := (yX6_row, cX6_row, 1, (some (.object "SoundWords$Row")))
abbrev i_X7_size : TMI := (yX7_size, cX7_size, 1, (some .int))
abbrev i_X7_at : TMI := (yX7_at, cX7_at, 2, (some .int))
theorem sh_106 : shp[106]? = some (.inl (7, [some 107, none])) := by decide +kernel
theorem sh_107 : shp[107]? = some (.inr (.inl 12)) := by decide +kernel
theorem gf_X10_35 : GF RX10 35 10 3 := ⟨RX10, TX10, 9, rfl, by decide, in_X10, tb_at 269 (by decide +kernel) rfl, rfl⟩
theorem mc_X10_153 : MCW RX10 153 i_X7_size 0 := ⟨tb_at 518 (by decide +kernel) rfl, tb_at 45 (by decide +kernel) rfl, tb_at 515 (by decide +kernel) rfl, by decide +kernel, by decide +kernel, by decide +kernel⟩
theorem mv_X7_size : Cond.instanceMethod i_X7_size.1 ∈ tw_tbl ∧ Cond.selects i_X7_size.1.cls i_X7_size.1 i_X7_size.1 ∈ tw_tbl := ⟨tb_at 516 (by decide +kernel) rfl, tb_at 517 (by decide +kernel) rfl⟩
theorem mc_X10_167 : MCW RX10 167 i_X7_add 1 := ⟨tb_at 502 (by decide +kernel) rfl, tb_at 45 (by decide +kernel) rfl, tb_at 541 (by decide +kernel) rfl, by decide +kernel, by decide +kernel, by decide +kernel⟩
theorem mv_X7_add : Cond.instanceMethod i_X7_add.1 ∈ tw_tbl ∧ Cond.selects i_X7_add.1.cls i_X7_add.1 i_X7_add.1 ∈ tw_tbl := ⟨tb_at 500 (by decide +kernel) rfl, tb_at 501 (by decide +kernel) rfl⟩
abbrev i_X10_say : TMI := (yX10_say, cX10_say, 2, (some .int))
theorem gf_X11_160 : GF RX11 160 11 9 := ⟨RX11, TX11, 32, rfl, by decide, in_X11, tb_at 754 (by decide +kernel) rfl, rfl⟩
theorem gf_X11_32 : GF RX11 32 11 10 := ⟨RX11, TX11, 32, rfl, by decide, in_X11, tb_at 755 (by decide +kernel) rfl, rfl⟩
theorem sh_194 : shp[194]? = some (.inr (.inl 12)) := by decide +kernel
theorem gp_X11_160 : GP RX11 160 11 9 .int := ⟨RX11, TX11, 32, tyX11, rfl, by decide, in_X11, tb_at 754 (by decide +kernel) rfl, rfl, tyX11_ok, nmX11, rfl, by decide +kernel⟩
abbrev i_X11_say : TMI := (yX11_say, cX11_say, 2, (some .int))
theorem mc_X10_168 : MCW RX10 168 i_X7_clear 0 := ⟨tb_at 462 (by decide +kernel) rfl, tb_at 45 (by decide +kernel) rfl, tb_at 546 (by decide +kernel) rfl, by decide +kernel, by decide +kernel, by decide +kernel⟩
theorem mv_X7_clear : Cond.instanceMethod i_X7_clear.1 ∈ tw_tbl ∧ Cond.selects i_X7_clear.1.cls i_X7_clear.1 i_X7_clear.1 ∈ tw_tbl := ⟨tb_at 460 (by decide +kernel) rfl, tb_at 461 (by decide +kernel) rfl⟩
abbrev i_X10_unsay : TMI := (yX10_unsay, cX10_unsay, 2, (some .int))
abbrev i_X11_unsay : TMI := (yX11_unsay, cX11_unsay, 2, (some .int))
theorem gf_X3_11 : GF RX3 11 3 0 := ⟨RX3, TX3, 6, rfl, by decide, in_X3, tb_at 180 (by decide +kernel) rfl, rfl⟩
theorem sh_109 : shp[109]? = some (.inr (.inl 96)) := by decide +kernel
abbrev i_X3_hasSoundBehind : TMI := (yX3_hasSoundBehind, cX3_hasSoundBehind, 2, (some .boolean))
theorem gf_X3_20 : GF RX3 20 3 2 := ⟨RX3, TX3, 6, rfl, by decide, in_X3, tb_at 182 (by decide +kernel) rfl, rfl⟩
theorem sh_111 : shp[111]? = some (.inr (.inr (41, 112))) := by decide +kernel
theorem shr_111 : ∀ j, j < 41 → shp[112 + j]? = some (.inr (.inl 96)) := fun j hj => of_decide_eq_true (List.all_eq_true.mp (show (List.range 41).all (fun j => decide (shp[112 + j]? = some (.inr (.inl 96)))) = true by decide +kernel) j (List.mem_range.mpr hj))
abbrev i_X3_firstSlot : TMI := (yX3_firstSlot, cX3_firstSlot, 5, (some .int))
theorem mc_X3_104 : MCW RX3 104 i_X3_hasSoundBehind 1 := ⟨tb_at 579 (by decide +kernel) rfl, tb_at 47 (by decide +kernel) rfl, tb_at 576 (by decide +kernel) rfl, by decide +kernel, by decide +kernel, by decide +kernel⟩
theorem mv_X3_hasSoundBehind : Cond.instanceMethod i_X3_hasSoundBehind.1 ∈ tw_tbl ∧ Cond.selects i_X3_hasSoundBehind.1.cls i_X3_hasSoundBehind.1 i_X3_hasSoundBehind.1 ∈ tw_tbl := ⟨tb_at 578 (by decide +kernel) rfl, tb_at 14 (by decide +kernel) rfl⟩
theorem gf_X3_26 : GF RX3 26 3 4 := ⟨RX3, TX3, 6, rfl, by decide, in_X3, tb_at 184 (by decide +kernel) rfl, rfl⟩
theorem gf_X3_15 : GF RX3 15 3 1 := ⟨RX3, TX3, 6, rfl, by decide, in_X3, tb_at 181 (by decide +kernel) rfl, rfl⟩
theorem sh_110 : shp[110]? = some (.inr (.inl 12)) := by decide +kernel
theorem mc_X3_64 : MCW RX3 64 i_X3_firstSlot 2 := ⟨tb_at 583 (by decide +kernel) rfl, tb_at 47 (by decide +kernel) rfl, tb_at 580 (by decide +kernel) rfl, by decide +kernel, by decide +kernel, by decide +kernel⟩
theorem mv_X3_firstSlot : Cond.instanceMethod i_X3_firstSlot.1 ∈ tw_tbl ∧ Cond.selects i_X3_firstSlot.1.cls i_X3_firstSlot.1 i_X3_firstSlot.1 ∈ tw_tbl := ⟨tb_at 582 (by decide +kernel) rfl, tb_at 15 (by decide +kernel) rfl⟩
theorem lc_X3_45 : Cond.constant RX3 45 1000000 ∈ tw_tbl := tb_at 557 (by decide +kernel) rfl
abbrev i_X3_goOn : TMI := (yX3_goOn, cX3_goOn, 7, (some .int))
theorem mc_X3_101 : MCW RX3 101 i_X2_stayCost 0 := ⟨tb_at 354 (by decide +kernel) rfl, tb_at 40 (by decide +kernel) rfl, tb_at 588 (by decide +kernel) rfl, by decide +kernel, by decide +kernel, by decide +kernel⟩
abbrev i_X3_stayOn : TMI := (yX3_stayOn, cX3_stayOn, 4, (some .int))
abbrev i_X11_aheadAt : TMI := (yX11_aheadAt, cX11_aheadAt, 4, (some .int))
theorem gf_X3_30 : GF RX3 30 3 5 := ⟨RX3, TX3, 6, rfl, by decide, in_X3, tb_at 185 (by decide +kernel) rfl, rfl⟩
abbrev i_X3_stands : TMI := (yX3_stands, cX3_stands, 1, (some .boolean))
theorem gf_X3_23 : GF RX3 23 3 3 := ⟨RX3, TX3, 6, rfl, by decide, in_X3, tb_at 183 (by decide +kernel) rfl, rfl⟩
theorem sh_153 : shp[153]? = some (.inr (.inl 40)) := by decide +kernel
abbrev i_X3_wayAt : TMI := (yX3_wayAt, cX3_wayAt, 2, (some .int))
abbrev i_X3_placeAt : TMI := (yX3_placeAt, cX3_placeAt, 2, (some .int))
abbrev i_X3_soundAt : TMI := (yX3_soundAt, cX3_soundAt, 2, (some .int))
theorem mc_X10_172 : MCW RX10 172 i_X3_stands 0 := ⟨tb_at 602 (by decide +kernel) rfl, tb_at 47 (by decide +kernel) rfl, tb_at 599 (by decide +kernel) rfl, by decide +kernel, by decide +kernel, by decide +kernel⟩
theorem mv_X3_stands : Cond.instanceMethod i_X3_stands.1 ∈ tw_tbl ∧ Cond.selects i_X3_stands.1.cls i_X3_stands.1 i_X3_stands.1 ∈ tw_tbl := ⟨tb_at 600 (by decide +kernel) rfl, tb_at 601 (by decide +kernel) rfl⟩
theorem mc_X10_182 : MCW RX10 182 i_X3_wayAt 1 := ⟨tb_at 614 (by decide +kernel) rfl, tb_at 47 (by decide +kernel) rfl, tb_at 611 (by decide +kernel) rfl, by decide +kernel, by decide +kernel, by decide +kernel⟩
theorem mv_X3_wayAt : Cond.instanceMethod i_X3_wayAt.1 ∈ tw_tbl ∧ Cond.selects i_X3_wayAt.1.cls i_X3_wayAt.1 i_X3_wayAt.1 ∈ tw_tbl := ⟨tb_at 612 (by decide +kernel) rfl, tb_at 613 (by decide +kernel) rfl⟩
theorem mc_X10_179 : MCW RX10 179 i_X3_placeAt 1 := ⟨tb_at 610 (by decide +kernel) rfl, tb_at 47 (by decide +kernel) rfl, tb_at 607 (by decide +kernel) rfl, by decide +kernel, by decide +kernel, by decide +kernel⟩
theorem mv_X3_placeAt : Cond.instanceMethod i_X3_placeAt.1 ∈ tw_tbl ∧ Cond.selects i_X3_placeAt.1.cls i_X3_placeAt.1 i_X3_placeAt.1 ∈ tw_tbl := ⟨tb_at 608 (by decide +kernel) rfl, tb_at 609 (by decide +kernel) rfl⟩
theorem mc_X10_176 : MCW RX10 176 i_X3_soundAt 1 := ⟨tb_at 606 (by decide +kernel) rfl, tb_at 47 (by decide +kernel) rfl, tb_at 603 (by decide +kernel) rfl, by decide +kernel, by decide +kernel, by decide +kernel⟩
theorem mv_X3_soundAt : Cond.instanceMethod i_X3_soundAt.1 ∈ tw_tbl ∧ Cond.selects i_X3_soundAt.1.cls i_X3_soundAt.1 i_X3_soundAt.1 ∈ tw_tbl := ⟨tb_at 604 (by decide +kernel) rfl, tb_at 605 (by decide +kernel) rfl⟩
abbrev i_X10_laid : TMI := (yX10_laid, cX10_laid, 3, (some .int))
theorem gf_X11_96 : GF RX11 96 11 11 := ⟨RX11, TX11, 32, rfl, by decide, in_X11, tb_at 756 (by decide +kernel) rfl, rfl⟩
theorem gf_X11_41 : GF RX11 41 11 14 := ⟨RX11, TX11, 32, rfl, by decide, in_X11, tb_at 759 (by decide +kernel) rfl, rfl⟩
theorem sh_197 : shp[197]? = some (.inr (.inl 40)) := by decide +kernel
theorem gf_X11_38 : GF RX11 38 11 13 := ⟨RX11, TX11, 32, rfl, by decide, in_X11, tb_at 758 (by decide +kernel) rfl, rfl⟩
theorem sh_196 : shp[196]? = some (.inr (.inl 40)) := by decide +kernel
theorem gf_X11_35 : GF RX11 35 11 12 := ⟨RX11, TX11, 32, rfl, by decide, in_X11, tb_at 757 (by decide +kernel) rfl, rfl⟩
theorem sh_195 : shp[195]? = some (.inr (.inl 40)) := by decide +kernel
abbrev i_X11_laid : TMI := (yX11_laid, cX11_laid, 3, (some .int))
abbrev i_X2_markOf : TMI := (yX2_markOf, cX2_markOf, 2, (some .int))
theorem gf_X4_23 : GF RX4 23 4 3 := ⟨RX4, TX4, 4, rfl, by decide, in_X4, tb_at 219 (by decide +kernel) rfl, rfl⟩
theorem sh_156 : shp[156]? = some (.inl (4, [some 157, some 164, none, none])) := by decide +kernel
abbrev i_X4_kept : TMI := (yX4_kept, cX4_kept, 1, (some .int))
theorem gf_X4_11 : GF RX4 11 4 0 := ⟨RX4, TX4, 4, rfl, by decide, in_X4, tb_at 216 (by decide +kernel) rfl, rfl⟩
theorem sh_157 : shp[157]? = some (.inr (.inr (6, 158))) := by decide +kernel
theorem shr_157 : ∀ j, j < 6 → shp[158 + j]? = some (.inr (.inl 8)) := fun j hj => of_decide_eq_true (List.all_eq_true.mp (show (List.range 6).all (fun j => decide (shp[158 + j]? = some (.inr (.inl 8)))) = true by decide +kernel) j (List.mem_range.mpr hj))
abbrev i_X4_countOf : TMI := (yX4_countOf, cX4_countOf, 3, (some .int))
theorem gf_X10_56 : GF RX10 56 10 6 := ⟨RX10, TX10, 9, rfl, by decide, in_X10, tb_at 272 (by decide +kernel) rfl, rfl⟩
theorem mc_X10_199 : MCW RX10 199 i_X4_countOf 2 := ⟨tb_at 661 (by decide +kernel) rfl, tb_at 49 (by decide +kernel) rfl, tb_at 658 (by decide +kernel) rfl, by decide +kernel, by decide +kernel, by decide +kernel⟩
theorem mv_X4_countOf : Cond.instanceMethod i_X4_countOf.1 ∈ tw_tbl ∧ Cond.selects i_X4_countOf.1.cls i_X4_countOf.1 i_X4_countOf.1 ∈ tw_tbl := ⟨tb_at 659 (by decide +kernel) rfl, tb_at 660 (by decide +kernel) rfl⟩
abbrev i_X10_taught : TMI := (yX10_taught, cX10_taught, 3, (some .int))
theorem gf_X11_44 : GF RX11 44 11 15 := ⟨RX11, TX11, 32, rfl, by decide, in_X11, tb_at 760 (by decide +kernel) rfl, rfl⟩
theorem sh_198 : shp[198]? = some (.inr (.inl 48)) := by decide +kernel
abbrev i_X11_taught : TMI := (yX11_taught, cX11_taught, 3, (some .int))
theorem sh_182 : shp[182]? = some (.inl (8, [some 183, some 184, some 185])) := by decide +kernel
theorem sh_183 : shp[183]? = some (.inr (.inl 41)) := by decide +kernel
theorem sh_184 : shp[184]? = some (.inr (.inl 41)) := by decide +kernel
theorem gf_X9_22 : GF RX9 22 9 2 := ⟨RX9, TX9, 4, rfl, by decide, in_X9, tb_at 239 (by decide +kernel) rfl, rfl⟩
theorem sh_181 : shp[181]? = some (.inl (9, [some 182, none, none, none])) := by decide +kernel
theorem gf_X9_18 : GF RX9 18 9 1 := ⟨RX9, TX9, 4, rfl, by decide, in_X9, tb_at 238 (by decide +kernel) rfl, rfl⟩
theorem gf_X9_25 : GF RX9 25 9 3 := ⟨RX9, TX9, 4, rfl, by decide, in_X9, tb_at 240 (by decide +kernel) rfl, rfl⟩
abbrev i_X9_isCheaper : TMI := (yX9_isCheaper, cX9_isCheaper, 3, (some .boolean))
abbrev i_X9_price : TMI := (yX9_price, cX9_price, 1, (some .int))
abbrev i_X9_end : TMI := (yX9_end, cX9_end, 1, (some .int))
abbrev i_X9_begin : TMI := (yX9_begin, cX9_begin, 1, (some .int))
theorem gp_X0_9 : GP RX0 9 0 0 .int := ⟨RX0, TX0, 3, tyX0, rfl, by decide, in_X0, tb_at 256 (by decide +kernel) rfl, rfl, tyX0_ok, nmX0, rfl, by decide +kernel⟩
theorem sh_186 : shp[186]? = some (.inl (0, [none, none, none])) := by decide +kernel
theorem gp_X0_15 : GP RX0 15 0 1 .int := ⟨RX0, TX0, 3, tyX0, rfl, by decide, in_X0, tb_at 257 (by decide +kernel) rfl, rfl, tyX0_ok, nmX0, rfl, by decide +kernel⟩
theorem gp_X0_18 : GP RX0 18 0 2 .int := ⟨RX0, TX0, 3, tyX0, rfl, by decide, in_X0, tb_at 258 (by decide +kernel) rfl, rfl, tyX0_ok, nmX0, rfl, by decide +kernel⟩
abbrev i_X0_set : TMI := (yX0_set, cX0_set, 4, none)
theorem gf_X10_70 : GF RX10 70 10 8 := ⟨RX10, TX10, 9, rfl, by decide, in_X10, tb_at 274 (by decide +kernel) rfl, rfl⟩
theorem mc_X10_217 : MCW RX10 217 i_X0_set 3 := ⟨tb_at 716 (by decide +kernel) rfl, tb_at 51 (by decide +kernel) rfl, tb_at 713 (by decide +kernel) rfl, by decide +kernel, by decide +kernel, by decide +kernel⟩
theorem mv_X0_set : Cond.instanceMethod i_X0_set.1 ∈ tw_tbl ∧ Cond.selects i_X0_set.1.cls i_X0_set.1 i_X0_set.1 ∈ tw_tbl := ⟨tb_at 714 (by decide +kernel) rfl, tb_at 715 (by decide +kernel) rfl⟩
abbrev i_X10_ears : TMI := (yX10_ears, cX10_ears, 4, (some .int))
theorem gp_X11_53 : GP RX11 53 11 19 .int := ⟨RX11, TX11, 32, tyX11, rfl, by decide, in_X11, tb_at 764 (by decide +kernel) rfl, rfl, tyX11_ok, nmX11, rfl, by decide +kernel⟩
theorem gp_X11_56 : GP RX11 56 11 20 .int := ⟨RX11, TX11, 32, tyX11, rfl, by decide, in_X11, tb_at 765 (by decide +kernel) rfl, rfl, tyX11_ok, nmX11, rfl, by decide +kernel⟩
theorem gp_X11_59 : GP RX11 59 11 21 .int := ⟨RX11, TX11, 32, tyX11, rfl, by decide, in_X11, tb_at 766 (by decide +kernel) rfl, rfl, tyX11_ok, nmX11, rfl, by decide +kernel⟩
abbrev i_X11_ears : TMI := (yX11_ears, cX11_ears, 4, (some .int))
theorem mc_X0_31 : MCW RX0 31 i_X2_markOf 1 := ⟨tb_at 639 (by decide +kernel) rfl, tb_at 40 (by decide +kernel) rfl, tb_at 730 (by decide +kernel) rfl, by decide +kernel, by decide +kernel, by decide +kernel⟩
theorem mv_X2_markOf : Cond.instanceMethod i_X2_markOf.1 ∈ tw_tbl ∧ Cond.selects i_X2_markOf.1.cls i_X2_markOf.1 i_X2_markOf.1 ∈ tw_tbl := ⟨tb_at 637 (by decide +kernel) rfl, tb_at 638 (by decide +kernel) rfl⟩
theorem gf_X0_9 : GF RX0 9 0 0 := ⟨RX0, TX0, 3, rfl, by decide, in_X0, tb_at 256 (by decide +kernel) rfl, rfl⟩
abbrev i_X0_isLoud : TMI := (yX0_isLoud, cX0_isLoud, 3, (some .boolean))
theorem mc_X10_193 : MCW RX10 193 i_X4_kept 0 := ⟨tb_at 649 (by decide +kernel) rfl, tb_at 49 (by decide +kernel) rfl, tb_at 646 (by decide +kernel) rfl, by decide +kernel, by decide +kernel, by decide +kernel⟩
theorem mv_X4_kept : Cond.instanceMethod i_X4_kept.1 ∈ tw_tbl ∧ Cond.selects i_X4_kept.1.cls i_X4_kept.1 i_X4_kept.1 ∈ tw_tbl := ⟨tb_at 647 (by decide +kernel) rfl, tb_at 648 (by decide +kernel) rfl⟩
abbrev i_X10_count : TMI := (yX10_count, cX10_count, 2, (some .int))
theorem gf_X11_179 : GF RX11 179 11 16 := ⟨RX11, TX11, 32, rfl, by decide, in_X11, tb_at 761 (by decide +kernel) rfl, rfl⟩
abbrev i_X11_count : TMI := (yX11_count, cX11_count, 2, (some .int))
