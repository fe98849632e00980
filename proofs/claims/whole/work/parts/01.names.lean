-- ===== PART A: goes FIRST, ahead of the names: the tables' words, and 'selects' of the private methods out of them =====
/-- a private method of a class that the tables say can be made, by its rows of tables_1 -/
def lw_okq (q : MethodName × Nat) : Prop := (q.1.cls ≠ "java/lang/invoke/MethodHandle" ∧ q.1.cls ≠ "java/lang/invoke/VarHandle") ∧ Cond.instantiable q.1.cls q.2 ∈ tables_1 ∧ Cond.privateMethod q.1 ∈ tables_1 ∧ Cond.instanceMethod q.1 ∈ tables_1
theorem lw_p0 : lw_okq (⟨"SoundWords", "endWhatLeansOnThis", "()V"⟩, 9) := ⟨⟨by decide +kernel, by decide +kernel⟩, List.mem_of_getElem? (i := 16) (by decide +kernel), List.mem_of_getElem? (i := 271) (by decide +kernel), List.mem_of_getElem? (i := 272) (by decide +kernel)⟩
theorem lw_p1 : lw_okq (⟨"SoundWords$Lexicon", "append", "(II)V"⟩, 5) := ⟨⟨by decide +kernel, by decide +kernel⟩, List.mem_of_getElem? (i := 49) (by decide +kernel), List.mem_of_getElem? (i := 344) (by decide +kernel), List.mem_of_getElem? (i := 345) (by decide +kernel)⟩
theorem lw_p2 : lw_okq (⟨"SoundWords", "isWord", "(I)Z"⟩, 9) := ⟨⟨by decide +kernel, by decide +kernel⟩, List.mem_of_getElem? (i := 16) (by decide +kernel), List.mem_of_getElem? (i := 352) (by decide +kernel), List.mem_of_getElem? (i := 353) (by decide +kernel)⟩
theorem lw_p3 : lw_okq (⟨"SoundWords", "isWordOrEdge", "(I)Z"⟩, 9) := ⟨⟨by decide +kernel, by decide +kernel⟩, List.mem_of_getElem? (i := 16) (by decide +kernel), List.mem_of_getElem? (i := 364) (by decide +kernel), List.mem_of_getElem? (i := 365) (by decide +kernel)⟩
theorem lw_p4 : lw_okq (⟨"SoundWords$Reading", "lookAhead", "(LSoundWords$Heard;LSoundWords$Lexicon;)V"⟩, 7) := ⟨⟨by decide +kernel, by decide +kernel⟩, List.mem_of_getElem? (i := 72) (by decide +kernel), List.mem_of_getElem? (i := 384) (by decide +kernel), List.mem_of_getElem? (i := 385) (by decide +kernel)⟩
theorem lw_p5 : lw_okq (⟨"SoundWords$Reading", "cheapestBehind", "(LSoundWords$Lexicon;III)I"⟩, 7) := ⟨⟨by decide +kernel, by decide +kernel⟩, List.mem_of_getElem? (i := 72) (by decide +kernel), List.mem_of_getElem? (i := 397) (by decide +kernel), List.mem_of_getElem? (i := 398) (by decide +kernel)⟩
theorem lw_p6 : lw_okq (⟨"SoundWords$Reading", "stepBack", "(LSoundWords$Heard;LSoundWords$Lexicon;IIII)I"⟩, 7) := ⟨⟨by decide +kernel, by decide +kernel⟩, List.mem_of_getElem? (i := 72) (by decide +kernel), List.mem_of_getElem? (i := 405) (by decide +kernel), List.mem_of_getElem? (i := 406) (by decide +kernel)⟩
theorem lw_p7 : lw_okq (⟨"SoundWords$Reading", "findRow", "(LSoundWords$Heard;LSoundWords$Lexicon;)V"⟩, 7) := ⟨⟨by decide +kernel, by decide +kernel⟩, List.mem_of_getElem? (i := 72) (by decide +kernel), List.mem_of_getElem? (i := 426) (by decide +kernel), List.mem_of_getElem? (i := 427) (by decide +kernel)⟩
theorem lw_p8 : lw_okq (⟨"SoundWords$Reading", "firstThatLeadsOn", "(LSoundWords$Lexicon;II)I"⟩, 7) := ⟨⟨by decide +kernel, by decide +kernel⟩, List.mem_of_getElem? (i := 72) (by decide +kernel), List.mem_of_getElem? (i := 430) (by decide +kernel), List.mem_of_getElem? (i := 431) (by decide +kernel)⟩
theorem lw_p9 : lw_okq (⟨"SoundWords$Reading", "append", "(LSoundWords$Heard;LSoundWords$Lexicon;II)V"⟩, 7) := ⟨⟨by decide +kernel, by decide +kernel⟩, List.mem_of_getElem? (i := 72) (by decide +kernel), List.mem_of_getElem? (i := 434) (by decide +kernel), List.mem_of_getElem? (i := 435) (by decide +kernel)⟩
theorem lw_p10 : lw_okq (⟨"SoundWords$Saying", "step", "(LSoundWords$Heard;LSoundWords$Lexicon;III)V"⟩, 3) := ⟨⟨by decide +kernel, by decide +kernel⟩, List.mem_of_getElem? (i := 79) (by decide +kernel), List.mem_of_getElem? (i := 451) (by decide +kernel), List.mem_of_getElem? (i := 452) (by decide +kernel)⟩
theorem lw_p11 : lw_okq (⟨"SoundWords$Laying", "takeRow", "(LSoundWords$Lexicon;LSoundWords$Row;)V"⟩, 6) := ⟨⟨by decide +kernel, by decide +kernel⟩, List.mem_of_getElem? (i := 136) (by decide +kernel), List.mem_of_getElem? (i := 521) (by decide +kernel), List.mem_of_getElem? (i := 522) (by decide +kernel)⟩
theorem lw_p12 : lw_okq (⟨"SoundWords$Laying", "lookAhead", "(LSoundWords$Heard;)V"⟩, 6) := ⟨⟨by decide +kernel, by decide +kernel⟩, List.mem_of_getElem? (i := 136) (by decide +kernel), List.mem_of_getElem? (i := 531) (by decide +kernel), List.mem_of_getElem? (i := 532) (by decide +kernel)⟩
theorem lw_p13 : lw_okq (⟨"SoundWords$Laying", "goOn", "(III)I"⟩, 6) := ⟨⟨by decide +kernel, by decide +kernel⟩, List.mem_of_getElem? (i := 136) (by decide +kernel), List.mem_of_getElem? (i := 535) (by decide +kernel), List.mem_of_getElem? (i := 536) (by decide +kernel)⟩
theorem lw_p14 : lw_okq (⟨"SoundWords$Laying", "hasSoundBehind", "(I)Z"⟩, 6) := ⟨⟨by decide +kernel, by decide +kernel⟩, List.mem_of_getElem? (i := 136) (by decide +kernel), List.mem_of_getElem? (i := 539) (by decide +kernel), List.mem_of_getElem? (i := 540) (by decide +kernel)⟩
theorem lw_p15 : lw_okq (⟨"SoundWords$Laying", "firstSlot", "(II)I"⟩, 6) := ⟨⟨by decide +kernel, by decide +kernel⟩, List.mem_of_getElem? (i := 136) (by decide +kernel), List.mem_of_getElem? (i := 543) (by decide +kernel), List.mem_of_getElem? (i := 544) (by decide +kernel)⟩
def lw_privs_1 : List (MethodName × Nat) := [(⟨"SoundWords", "endWhatLeansOnThis", "()V"⟩, 9), (⟨"SoundWords$Lexicon", "append", "(II)V"⟩, 5), (⟨"SoundWords", "isWord", "(I)Z"⟩, 9), (⟨"SoundWords", "isWordOrEdge", "(I)Z"⟩, 9), (⟨"SoundWords$Reading", "lookAhead", "(LSoundWords$Heard;LSoundWords$Lexicon;)V"⟩, 7), (⟨"SoundWords$Reading", "cheapestBehind", "(LSoundWords$Lexicon;III)I"⟩, 7), (⟨"SoundWords$Reading", "stepBack", "(LSoundWords$Heard;LSoundWords$Lexicon;IIII)I"⟩, 7), (⟨"SoundWords$Reading", "findRow", "(LSoundWords$Heard;LSoundWords$Lexicon;)V"⟩, 7), (⟨"SoundWords$Reading", "firstThatLeadsOn", "(LSoundWords$Lexicon;II)I"⟩, 7), (⟨"SoundWords$Reading", "append", "(LSoundWords$Heard;LSoundWords$Lexicon;II)V"⟩, 7), (⟨"SoundWords$Saying", "step", "(LSoundWords$Heard;LSoundWords$Lexicon;III)V"⟩, 3), (⟨"SoundWords$Laying", "takeRow", "(LSoundWords$Lexicon;LSoundWords$Row;)V"⟩, 6), (⟨"SoundWords$Laying", "lookAhead", "(LSoundWords$Heard;)V"⟩, 6), (⟨"SoundWords$Laying", "goOn", "(III)I"⟩, 6), (⟨"SoundWords$Laying", "hasSoundBehind", "(I)Z"⟩, 6), (⟨"SoundWords$Laying", "firstSlot", "(II)I"⟩, 6)]
theorem lw_r1 : ∀ q ∈ lw_privs_1, lw_okq q := List.forall_mem_cons.mpr ⟨lw_p0, List.forall_mem_cons.mpr ⟨lw_p1, List.forall_mem_cons.mpr ⟨lw_p2, List.forall_mem_cons.mpr ⟨lw_p3, List.forall_mem_cons.mpr ⟨lw_p4, List.forall_mem_cons.mpr ⟨lw_p5, List.forall_mem_cons.mpr ⟨lw_p6, List.forall_mem_cons.mpr ⟨lw_p7, List.forall_mem_cons.mpr ⟨lw_p8, List.forall_mem_cons.mpr ⟨lw_p9, List.forall_mem_cons.mpr ⟨lw_p10, List.forall_mem_cons.mpr ⟨lw_p11, List.forall_mem_cons.mpr ⟨lw_p12, List.forall_mem_cons.mpr ⟨lw_p13, List.forall_mem_cons.mpr ⟨lw_p14, List.forall_mem_cons.mpr ⟨lw_p15, fun _ h => absurd h List.not_mem_nil⟩⟩⟩⟩⟩⟩⟩⟩⟩⟩⟩⟩⟩⟩⟩⟩
theorem lw_p16 : lw_okq (⟨"SoundWords$Laying", "stayOn", "(LSoundWords$Heard;II)I"⟩, 6) := ⟨⟨by decide +kernel, by decide +kernel⟩, List.mem_of_getElem? (i := 136) (by decide +kernel), List.mem_of_getElem? (i := 547) (by decide +kernel), List.mem_of_getElem? (i := 548) (by decide +kernel)⟩
theorem lw_p17 : lw_okq (⟨"SoundWords$Laying", "walk", "(LSoundWords$Heard;)V"⟩, 6) := ⟨⟨by decide +kernel, by decide +kernel⟩, List.mem_of_getElem? (i := 136) (by decide +kernel), List.mem_of_getElem? (i := 554) (by decide +kernel), List.mem_of_getElem? (i := 555) (by decide +kernel)⟩
theorem lw_p18 : lw_okq (⟨"SoundWords$Lessons", "allOf", "(I)I"⟩, 4) := ⟨⟨by decide +kernel, by decide +kernel⟩, List.mem_of_getElem? (i := 172) (by decide +kernel), List.mem_of_getElem? (i := 633) (by decide +kernel), List.mem_of_getElem? (i := 634) (by decide +kernel)⟩
theorem lw_p19 : lw_okq (⟨"SoundWords$Spotter", "isCheaper", "(II)Z"⟩, 4) := ⟨⟨by decide +kernel, by decide +kernel⟩, List.mem_of_getElem? (i := 192) (by decide +kernel), List.mem_of_getElem? (i := 656) (by decide +kernel), List.mem_of_getElem? (i := 657) (by decide +kernel)⟩
theorem lw_p20 : lw_okq (⟨"SoundWords$Ears", "isLoud", "(LSoundWords$Heard;I)Z"⟩, 3) := ⟨⟨by decide +kernel, by decide +kernel⟩, List.mem_of_getElem? (i := 213) (by decide +kernel), List.mem_of_getElem? (i := 689) (by decide +kernel), List.mem_of_getElem? (i := 690) (by decide +kernel)⟩
theorem lw_p21 : lw_okq (⟨"SoundWordsModel", "layWay", "(IIIIII)V"⟩, 32) := ⟨⟨by decide +kernel, by decide +kernel⟩, List.mem_of_getElem? (i := 702) (by decide +kernel), List.mem_of_getElem? (i := 831) (by decide +kernel), List.mem_of_getElem? (i := 832) (by decide +kernel)⟩
theorem lw_p22 : lw_okq (⟨"SoundWordsModel", "isWord", "(I)Z"⟩, 32) := ⟨⟨by decide +kernel, by decide +kernel⟩, List.mem_of_getElem? (i := 702) (by decide +kernel), List.mem_of_getElem? (i := 839) (by decide +kernel), List.mem_of_getElem? (i := 840) (by decide +kernel)⟩
theorem lw_p23 : lw_okq (⟨"SoundWordsModel", "behind", "(II)I"⟩, 32) := ⟨⟨by decide +kernel, by decide +kernel⟩, List.mem_of_getElem? (i := 702) (by decide +kernel), List.mem_of_getElem? (i := 847) (by decide +kernel), List.mem_of_getElem? (i := 848) (by decide +kernel)⟩
theorem lw_p24 : lw_okq (⟨"SoundWordsModel", "leastNow", "()I"⟩, 32) := ⟨⟨by decide +kernel, by decide +kernel⟩, List.mem_of_getElem? (i := 702) (by decide +kernel), List.mem_of_getElem? (i := 855) (by decide +kernel), List.mem_of_getElem? (i := 856) (by decide +kernel)⟩
theorem lw_p25 : lw_okq (⟨"SoundWordsModel", "layRest", "()V"⟩, 32) := ⟨⟨by decide +kernel, by decide +kernel⟩, List.mem_of_getElem? (i := 702) (by decide +kernel), List.mem_of_getElem? (i := 859) (by decide +kernel), List.mem_of_getElem? (i := 860) (by decide +kernel)⟩
theorem lw_p26 : lw_okq (⟨"SoundWordsModel", "layAll", "()V"⟩, 32) := ⟨⟨by decide +kernel, by decide +kernel⟩, List.mem_of_getElem? (i := 702) (by decide +kernel), List.mem_of_getElem? (i := 863) (by decide +kernel), List.mem_of_getElem? (i := 864) (by decide +kernel)⟩
theorem lw_p27 : lw_okq (⟨"SoundWordsModel", "layOn", "(III)V"⟩, 32) := ⟨⟨by decide +kernel, by decide +kernel⟩, List.mem_of_getElem? (i := 702) (by decide +kernel), List.mem_of_getElem? (i := 868) (by decide +kernel), List.mem_of_getElem? (i := 869) (by decide +kernel)⟩
theorem lw_p28 : lw_okq (⟨"SoundWordsModel", "costOf", "(II)I"⟩, 32) := ⟨⟨by decide +kernel, by decide +kernel⟩, List.mem_of_getElem? (i := 702) (by decide +kernel), List.mem_of_getElem? (i := 875) (by decide +kernel), List.mem_of_getElem? (i := 876) (by decide +kernel)⟩
theorem lw_p29 : lw_okq (⟨"SoundWordsModel", "withNext", "(III)I"⟩, 32) := ⟨⟨by decide +kernel, by decide +kernel⟩, List.mem_of_getElem? (i := 702) (by decide +kernel), List.mem_of_getElem? (i := 882) (by decide +kernel), List.mem_of_getElem? (i := 883) (by decide +kernel)⟩
theorem lw_p30 : lw_okq (⟨"SoundWordsModel", "restAt", "(II)I"⟩, 32) := ⟨⟨by decide +kernel, by decide +kernel⟩, List.mem_of_getElem? (i := 702) (by decide +kernel), List.mem_of_getElem? (i := 886) (by decide +kernel), List.mem_of_getElem? (i := 887) (by decide +kernel)⟩
theorem lw_p31 : lw_okq (⟨"SoundWordsModel", "findRow", "()Z"⟩, 32) := ⟨⟨by decide +kernel, by decide +kernel⟩, List.mem_of_getElem? (i := 702) (by decide +kernel), List.mem_of_getElem? (i := 894) (by decide +kernel), List.mem_of_getElem? (i := 895) (by decide +kernel)⟩
def lw_privs_2 : List (MethodName × Nat) := [(⟨"SoundWords$Laying", "stayOn", "(LSoundWords$Heard;II)I"⟩, 6), (⟨"SoundWords$Laying", "walk", "(LSoundWords$Heard;)V"⟩, 6), (⟨"SoundWords$Lessons", "allOf", "(I)I"⟩, 4), (⟨"SoundWords$Spotter", "isCheaper", "(II)Z"⟩, 4), (⟨"SoundWords$Ears", "isLoud", "(LSoundWords$Heard;I)Z"⟩, 3), (⟨"SoundWordsModel", "layWay", "(IIIIII)V"⟩, 32), (⟨"SoundWordsModel", "isWord", "(I)Z"⟩, 32), (⟨"SoundWordsModel", "behind", "(II)I"⟩, 32), (⟨"SoundWordsModel", "leastNow", "()I"⟩, 32), (⟨"SoundWordsModel", "layRest", "()V"⟩, 32), (⟨"SoundWordsModel", "layAll", "()V"⟩, 32), (⟨"SoundWordsModel", "layOn", "(III)V"⟩, 32), (⟨"SoundWordsModel", "costOf", "(II)I"⟩, 32), (⟨"SoundWordsModel", "withNext", "(III)I"⟩, 32), (⟨"SoundWordsModel", "restAt", "(II)I"⟩, 32), (⟨"SoundWordsModel", "findRow", "()Z"⟩, 32)]
theorem lw_r2 : ∀ q ∈ lw_privs_2, lw_okq q := List.forall_mem_cons.mpr ⟨lw_p16, List.forall_mem_cons.mpr ⟨lw_p17, List.forall_mem_cons.mpr ⟨lw_p18, List.forall_mem_cons.mpr ⟨lw_p19, List.forall_mem_cons.mpr ⟨lw_p20, List.forall_mem_cons.mpr ⟨lw_p21, List.forall_mem_cons.mpr ⟨lw_p22, List.forall_mem_cons.mpr ⟨lw_p23, List.forall_mem_cons.mpr ⟨lw_p24, List.forall_mem_cons.mpr ⟨lw_p25, List.forall_mem_cons.mpr ⟨lw_p26, List.forall_mem_cons.mpr ⟨lw_p27, List.forall_mem_cons.mpr ⟨lw_p28, List.forall_mem_cons.mpr ⟨lw_p29, List.forall_mem_cons.mpr ⟨lw_p30, List.forall_mem_cons.mpr ⟨lw_p31, fun _ h => absurd h List.not_mem_nil⟩⟩⟩⟩⟩⟩⟩⟩⟩⟩⟩⟩⟩⟩⟩⟩
theorem lw_p32 : lw_okq (⟨"SoundWordsModel", "goesOn", "(III)Z"⟩, 32) := ⟨⟨by decide +kernel, by decide +kernel⟩, List.mem_of_getElem? (i := 702) (by decide +kernel), List.mem_of_getElem? (i := 898) (by decide +kernel), List.mem_of_getElem? (i := 899) (by decide +kernel)⟩
theorem lw_p33 : lw_okq (⟨"SoundWordsModel", "layAhead", "()V"⟩, 32) := ⟨⟨by decide +kernel, by decide +kernel⟩, List.mem_of_getElem? (i := 702) (by decide +kernel), List.mem_of_getElem? (i := 922) (by decide +kernel), List.mem_of_getElem? (i := 923) (by decide +kernel)⟩
theorem lw_p34 : lw_okq (⟨"SoundWordsModel", "soundTo", "(IIIII)I"⟩, 32) := ⟨⟨by decide +kernel, by decide +kernel⟩, List.mem_of_getElem? (i := 702) (by decide +kernel), List.mem_of_getElem? (i := 926) (by decide +kernel), List.mem_of_getElem? (i := 927) (by decide +kernel)⟩
theorem lw_p35 : lw_okq (⟨"SoundWordsModel", "behindWord", "(II)I"⟩, 32) := ⟨⟨by decide +kernel, by decide +kernel⟩, List.mem_of_getElem? (i := 702) (by decide +kernel), List.mem_of_getElem? (i := 930) (by decide +kernel), List.mem_of_getElem? (i := 931) (by decide +kernel)⟩
theorem lw_p36 : lw_okq (⟨"SoundWordsModel", "bestWay", "(II)I"⟩, 32) := ⟨⟨by decide +kernel, by decide +kernel⟩, List.mem_of_getElem? (i := 702) (by decide +kernel), List.mem_of_getElem? (i := 934) (by decide +kernel), List.mem_of_getElem? (i := 935) (by decide +kernel)⟩
theorem lw_p37 : lw_okq (⟨"SoundWordsModel", "firstOf", "(IIZ)I"⟩, 32) := ⟨⟨by decide +kernel, by decide +kernel⟩, List.mem_of_getElem? (i := 702) (by decide +kernel), List.mem_of_getElem? (i := 977) (by decide +kernel), List.mem_of_getElem? (i := 978) (by decide +kernel)⟩
def lw_privs_3 : List (MethodName × Nat) := [(⟨"SoundWordsModel", "goesOn", "(III)Z"⟩, 32), (⟨"SoundWordsModel", "layAhead", "()V"⟩, 32), (⟨"SoundWordsModel", "soundTo", "(IIIII)I"⟩, 32), (⟨"SoundWordsModel", "behindWord", "(II)I"⟩, 32), (⟨"SoundWordsModel", "bestWay", "(II)I"⟩, 32), (⟨"SoundWordsModel", "firstOf", "(IIZ)I"⟩, 32)]
theorem lw_r3 : ∀ q ∈ lw_privs_3, lw_okq q := List.forall_mem_cons.mpr ⟨lw_p32, List.forall_mem_cons.mpr ⟨lw_p33, List.forall_mem_cons.mpr ⟨lw_p34, List.forall_mem_cons.mpr ⟨lw_p35, List.forall_mem_cons.mpr ⟨lw_p36, List.forall_mem_cons.mpr ⟨lw_p37, fun _ h => absurd h List.not_mem_nil⟩⟩⟩⟩⟩⟩
def lw_privs : List (MethodName × Nat) := lw_privs_1 ++ (lw_privs_2 ++ (lw_privs_3))
def lw_tbl : List Cond := k2_sels lw_privs ++ tables_1
theorem lw_privs_ok : ∀ q ∈ lw_privs, lw_okq q := by
  show ∀ q ∈ lw_privs_1 ++ (lw_privs_2 ++ (lw_privs_3)), lw_okq q
  exact List.forall_mem_append.mpr ⟨lw_r1, List.forall_mem_append.mpr ⟨lw_r2, lw_r3⟩⟩
-- ===== names of classes, fields, methods (out of what TURN printed of the program) =====
def RX0 : String := "SoundWords$Ears"
def TX0 : u_T := fun k => match k with
  | 0 => ("SoundWords$Ears", "level", "I", false)
  | 1 => ("SoundWords$Ears", "rise", "I", false)
  | _ => ("SoundWords$Ears", "fall", "I", false)
def tyX0 : Nat → FieldType := fun k => match k with
  | 0 => .int
  | 1 => .int
  | _ => .int
theorem nmX0 : ∀ a, a < 3 → ∀ b, b < 3 → a ≠ b → (TX0 a).2.1 ≠ (TX0 b).2.1 := by decide +kernel
theorem tyX0_ok : ∀ k, k < 3 → parseFieldDescriptor (TX0 k).2.2.1 = some (tyX0 k) := by decide +kernel
abbrev cX0_init : ByteArray := prog_2_method_1_code
def yX0_init : MethodName := ⟨RX0, "<init>", "()V"⟩
abbrev cX0_set : ByteArray := prog_2_method_2_code
def yX0_set : MethodName := ⟨RX0, "set", "(III)V"⟩
abbrev cX0_begin : ByteArray := prog_2_method_3_code
def yX0_begin : MethodName := ⟨RX0, "begin", "(LSoundWords$Heard;)I"⟩
abbrev cX0_endBehind : ByteArray := prog_2_method_4_code
def yX0_endBehind : MethodName := ⟨RX0, "endBehind", "(LSoundWords$Heard;I)I"⟩
abbrev cX0_isLoud : ByteArray := prog_2_method_5_code
def yX0_isLoud : MethodName := ⟨RX0, "isLoud", "(LSoundWords$Heard;I)Z"⟩
def RX1 : String := "SoundWords$Edits"
def TX1 : u_T := fun k => match k with
  | _ => ("SoundWords$Edits", "made", "[I", true)
def tyX1 : Nat → FieldType := fun k => match k with
  | _ => .array .int
theorem nmX1 : ∀ a, a < 1 → ∀ b, b < 1 → a ≠ b → (TX1 a).2.1 ≠ (TX1 b).2.1 := by decide +kernel
theorem tyX1_ok : ∀ k, k < 1 → parseFieldDescriptor (TX1 k).2.2.1 = some (tyX1 k) := by decide +kernel
abbrev cX1_init : ByteArray := prog_3_method_1_code
def yX1_init : MethodName := ⟨RX1, "<init>", "()V"⟩
abbrev cX1_fewest : ByteArray := prog_3_method_2_code
def yX1_fewest : MethodName := ⟨RX1, "fewest", "(LSoundWords$Row;LSoundWords$Row;)I"⟩
def RX2 : String := "SoundWords$Heard"
def TX2 : u_T := fun k => match k with
  | 0 => ("SoundWords$Heard", "marks", "[I", true)
  | 1 => ("SoundWords$Heard", "costs", "[[I", true)
  | 2 => ("SoundWords$Heard", "frames", "I", false)
  | _ => ("SoundWords$Heard", "stayCost", "I", false)
def tyX2 : Nat → FieldType := fun k => match k with
  | 0 => .array .int
  | 1 => .array (.array .int)
  | 2 => .int
  | _ => .int
theorem nmX2 : ∀ a, a < 4 → ∀ b, b < 4 → a ≠ b → (TX2 a).2.1 ≠ (TX2 b).2.1 := by decide +kernel
theorem tyX2_ok : ∀ k, k < 4 → parseFieldDescriptor (TX2 k).2.2.1 = some (tyX2 k) := by decide +kernel
abbrev cX2_init : ByteArray := prog_4_method_1_code
def yX2_init : MethodName := ⟨RX2, "<init>", "()V"⟩
abbrev cX2_frames : ByteArray := prog_4_method_2_code
def yX2_frames : MethodName := ⟨RX2, "frames", "()I"⟩
abbrev cX2_markOf : ByteArray := prog_4_method_3_code
def yX2_markOf : MethodName := ⟨RX2, "markOf", "(I)I"⟩
abbrev cX2_add : ByteArray := prog_4_method_4_code
def yX2_add : MethodName := ⟨RX2, "add", "(I)V"⟩
abbrev cX2_clear : ByteArray := prog_4_method_5_code
def yX2_clear : MethodName := ⟨RX2, "clear", "()V"⟩
abbrev cX2_costOf : ByteArray := prog_4_method_6_code
def yX2_costOf : MethodName := ⟨RX2, "costOf", "(II)I"⟩
abbrev cX2_setCost : ByteArray := prog_4_method_7_code
def yX2_setCost : MethodName := ⟨RX2, "setCost", "(III)V"⟩
abbrev cX2_stayCost : ByteArray := prog_4_method_8_code
def yX2_stayCost : MethodName := ⟨RX2, "stayCost", "()I"⟩
abbrev cX2_setStayCost : ByteArray := prog_4_method_9_code
def yX2_setStayCost : MethodName := ⟨RX2, "setStayCost", "(I)V"⟩
abbrev cX2_costAt : ByteArray := prog_4_method_10_code
def yX2_costAt : MethodName := ⟨RX2, "costAt", "(II)I"⟩
def RX3 : String := "SoundWords$Laying"
def TX3 : u_T := fun k => match k with
  | 0 => ("SoundWords$Laying", "soundOfSlot", "[I", true)
  | 1 => ("SoundWords$Laying", "costBehindPlace", "[I", true)
  | 2 => ("SoundWords$Laying", "ahead", "[[I", true)
  | 3 => ("SoundWords$Laying", "slotOfFrame", "[I", true)
  | 4 => ("SoundWords$Laying", "places", "I", false)
  | _ => ("SoundWords$Laying", "stands", "Z", false)
def tyX3 : Nat → FieldType := fun k => match k with
  | 0 => .array .int
  | 1 => .array .int
  | 2 => .array (.array .int)
  | 3 => .array .int
  | 4 => .int
  | _ => .boolean
theorem nmX3 : ∀ a, a < 6 → ∀ b, b < 6 → a ≠ b → (TX3 a).2.1 ≠ (TX3 b).2.1 := by decide +kernel
theorem tyX3_ok : ∀ k, k < 6 → parseFieldDescriptor (TX3 k).2.2.1 = some (tyX3 k) := by decide +kernel
abbrev cX3_init : ByteArray := prog_5_method_1_code
def yX3_init : MethodName := ⟨RX3, "<init>", "()V"⟩
abbrev cX3_stands : ByteArray := prog_5_method_2_code
def yX3_stands : MethodName := ⟨RX3, "stands", "()Z"⟩
abbrev cX3_end : ByteArray := prog_5_method_3_code
def yX3_end : MethodName := ⟨RX3, "end", "()V"⟩
abbrev cX3_soundAt : ByteArray := prog_5_method_4_code
def yX3_soundAt : MethodName := ⟨RX3, "soundAt", "(I)I"⟩
abbrev cX3_placeAt : ByteArray := prog_5_method_5_code
def yX3_placeAt : MethodName := ⟨RX3, "placeAt", "(I)I"⟩
abbrev cX3_wayAt : ByteArray := prog_5_method_6_code
def yX3_wayAt : MethodName := ⟨RX3, "wayAt", "(I)I"⟩
abbrev cX3_find : ByteArray := prog_5_method_7_code
def yX3_find : MethodName := ⟨RX3, "find", "(LSoundWords$Heard;LSoundWords$Lexicon;LSoundWords$Row;)I"⟩
abbrev cX3_takeRow : ByteArray := prog_5_method_8_code
def yX3_takeRow : MethodName := ⟨RX3, "takeRow", "(LSoundWords$Lexicon;LSoundWords$Row;)V"⟩
abbrev cX3_lookAhead : ByteArray := prog_5_method_9_code
def yX3_lookAhead : MethodName := ⟨RX3, "lookAhead", "(LSoundWords$Heard;)V"⟩
abbrev cX3_stayOn : ByteArray := prog_5_method_10_code
def yX3_stayOn : MethodName := ⟨RX3, "stayOn", "(LSoundWords$Heard;II)I"⟩
abbrev cX3_goOn : ByteArray := prog_5_method_11_code
def yX3_goOn : MethodName := ⟨RX3, "goOn", "(III)I"⟩
abbrev cX3_hasSoundBehind : ByteArray := prog_5_method_12_code
def yX3_hasSoundBehind : MethodName := ⟨RX3, "hasSoundBehind", "(I)Z"⟩
abbrev cX3_firstSlot : ByteArray := prog_5_method_13_code
def yX3_firstSlot : MethodName := ⟨RX3, "firstSlot", "(II)I"⟩
abbrev cX3_walk : ByteArray := prog_5_method_14_code
def yX3_walk : MethodName := ⟨RX3, "walk", "(LSoundWords$Heard;)V"⟩
def RX4 : String := "SoundWords$Lessons"
def TX4 : u_T := fun k => match k with
  | 0 => ("SoundWords$Lessons", "counts", "[[I", true)
  | 1 => ("SoundWords$Lessons", "added", "[[I", true)
  | 2 => ("SoundWords$Lessons", "next", "I", false)
  | _ => ("SoundWords$Lessons", "kept", "I", false)
def tyX4 : Nat → FieldType := fun k => match k with
  | 0 => .array (.array .int)
  | 1 => .array (.array .int)
  | 2 => .int
  | _ => .int
theorem nmX4 : ∀ a, a < 4 → ∀ b, b < 4 → a ≠ b → (TX4 a).2.1 ≠ (TX4 b).2.1 := by decide +kernel
theorem tyX4_ok : ∀ k, k < 4 → parseFieldDescriptor (TX4 k).2.2.1 = some (tyX4 k) := by decide +kernel
abbrev cX4_init : ByteArray := prog_6_method_1_code
def yX4_init : MethodName := ⟨RX4, "<init>", "()V"⟩
abbrev cX4_kept : ByteArray := prog_6_method_2_code
def yX4_kept : MethodName := ⟨RX4, "kept", "()I"⟩
abbrev cX4_countOf : ByteArray := prog_6_method_3_code
def yX4_countOf : MethodName := ⟨RX4, "countOf", "(II)I"⟩
abbrev cX4_learn : ByteArray := prog_6_method_4_code
def yX4_learn : MethodName := ⟨RX4, "learn", "(LSoundWords$Heard;LSoundWords$Laying;)I"⟩
abbrev cX4_unlearn : ByteArray := prog_6_method_5_code
def yX4_unlearn : MethodName := ⟨RX4, "unlearn", "()I"⟩
abbrev cX4_setCosts : ByteArray := prog_6_method_6_code
def yX4_setCosts : MethodName := ⟨RX4, "setCosts", "(LSoundWords$Heard;)I"⟩
abbrev cX4_allOf : ByteArray := prog_6_method_7_code
def yX4_allOf : MethodName := ⟨RX4, "allOf", "(I)I"⟩
def RX5 : String := "SoundWords$Lexicon"
def TX5 : u_T := fun k => match k with
  | 0 => ("SoundWords$Lexicon", "sounds", "[[I", true)
  | 1 => ("SoundWords$Lexicon", "lengths", "[I", true)
  | 2 => ("SoundWords$Lexicon", "ways", "[I", true)
  | 3 => ("SoundWords$Lexicon", "grammar", "[[I", true)
  | _ => ("SoundWords$Lexicon", "words", "I", false)
def tyX5 : Nat → FieldType := fun k => match k with
  | 0 => .array (.array .int)
  | 1 => .array .int
  | 2 => .array .int
  | 3 => .array (.array .int)
  | _ => .int
theorem nmX5 : ∀ a, a < 5 → ∀ b, b < 5 → a ≠ b → (TX5 a).2.1 ≠ (TX5 b).2.1 := by decide +kernel
theorem tyX5_ok : ∀ k, k < 5 → parseFieldDescriptor (TX5 k).2.2.1 = some (tyX5 k) := by decide +kernel
abbrev cX5_init : ByteArray := prog_7_method_1_code
def yX5_init : MethodName := ⟨RX5, "<init>", "()V"⟩
abbrev cX5_words : ByteArray := prog_7_method_2_code
def yX5_words : MethodName := ⟨RX5, "words", "()I"⟩
abbrev cX5_waysOf : ByteArray := prog_7_method_3_code
def yX5_waysOf : MethodName := ⟨RX5, "waysOf", "(I)I"⟩
abbrev cX5_lengthOf : ByteArray := prog_7_method_4_code
def yX5_lengthOf : MethodName := ⟨RX5, "lengthOf", "(II)I"⟩
abbrev cX5_soundOf : ByteArray := prog_7_method_5_code
def yX5_soundOf : MethodName := ⟨RX5, "soundOf", "(III)I"⟩
abbrev cX5_addWord : ByteArray := prog_7_method_6_code
def yX5_addWord : MethodName := ⟨RX5, "addWord", "()V"⟩
abbrev cX5_addWay : ByteArray := prog_7_method_7_code
def yX5_addWay : MethodName := ⟨RX5, "addWay", "(IIIII)V"⟩
abbrev cX5_append : ByteArray := prog_7_method_8_code
def yX5_append : MethodName := ⟨RX5, "append", "(II)V"⟩
abbrev cX5_grammarOf : ByteArray := prog_7_method_9_code
def yX5_grammarOf : MethodName := ⟨RX5, "grammarOf", "(II)I"⟩
abbrev cX5_setGrammar : ByteArray := prog_7_method_10_code
def yX5_setGrammar : MethodName := ⟨RX5, "setGrammar", "(III)V"⟩
abbrev cX5_joint : ByteArray := prog_7_method_11_code
def yX5_joint : MethodName := ⟨RX5, "joint", "(II)I"⟩
def RX6 : String := "SoundWords$Reading"
def TX6 : u_T := fun k => match k with
  | 0 => ("SoundWords$Reading", "ahead", "[[I", true)
  | 1 => ("SoundWords$Reading", "on", "[[I", true)
  | 2 => ("SoundWords$Reading", "paid", "[I", true)
  | 3 => ("SoundWords$Reading", "saying", "LSoundWords$Saying;", true)
  | 4 => ("SoundWords$Reading", "row", "LSoundWords$Row;", true)
  | 5 => ("SoundWords$Reading", "cheapest", "I", false)
  | _ => ("SoundWords$Reading", "found", "Z", false)
def tyX6 : Nat → FieldType := fun k => match k with
  | 0 => .array (.array .int)
  | 1 => .array (.array .int)
  | 2 => .array .int
  | 3 => .object "SoundWords$Saying"
  | 4 => .object "SoundWords$Row"
  | 5 => .int
  | _ => .boolean
theorem nmX6 : ∀ a, a < 7 → ∀ b, b < 7 → a ≠ b → (TX6 a).2.1 ≠ (TX6 b).2.1 := by decide +kernel
theorem tyX6_ok : ∀ k, k < 7 → parseFieldDescriptor (TX6 k).2.2.1 = some (tyX6 k) := by decide +kernel
abbrev cX6_init : ByteArray := prog_8_method_1_code
def yX6_init : MethodName := ⟨RX6, "<init>", "()V"⟩
abbrev cX6_cheapest : ByteArray := prog_8_method_2_code
def yX6_cheapest : MethodName := ⟨RX6, "cheapest", "()I"⟩
abbrev cX6_row : ByteArray := prog_8_method_3_code
def yX6_row : MethodName := ⟨RX6, "row", "()LSoundWords$Row;"⟩
abbrev cX6_end : ByteArray := prog_8_method_4_code
def yX6_end : MethodName := ⟨RX6, "end", "()V"⟩
abbrev cX6_find : ByteArray := prog_8_method_5_code
def yX6_find : MethodName := ⟨RX6, "find", "(LSoundWords$Heard;LSoundWords$Lexicon;)Z"⟩
abbrev cX6_cheapestWithAnotherFirst : ByteArray := prog_8_method_6_code
def yX6_cheapestWithAnotherFirst : MethodName := ⟨RX6, "cheapestWithAnotherFirst", "(LSoundWords$Lexicon;)I"⟩
abbrev cX6_cheapestBehind : ByteArray := prog_8_method_7_code
def yX6_cheapestBehind : MethodName := ⟨RX6, "cheapestBehind", "(LSoundWords$Lexicon;III)I"⟩
abbrev cX6_lookAhead : ByteArray := prog_8_method_8_code
def yX6_lookAhead : MethodName := ⟨RX6, "lookAhead", "(LSoundWords$Heard;LSoundWords$Lexicon;)V"⟩
abbrev cX6_stepBack : ByteArray := prog_8_method_9_code
def yX6_stepBack : MethodName := ⟨RX6, "stepBack", "(LSoundWords$Heard;LSoundWords$Lexicon;IIII)I"⟩
abbrev cX6_findRow : ByteArray := prog_8_method_10_code
def yX6_findRow : MethodName := ⟨RX6, "findRow", "(LSoundWords$Heard;LSoundWords$Lexicon;)V"⟩
abbrev cX6_firstThatLeadsOn : ByteArray := prog_8_method_11_code
def yX6_firstThatLeadsOn : MethodName := ⟨RX6, "firstThatLeadsOn", "(LSoundWords$Lexicon;II)I"⟩
abbrev cX6_append : ByteArray := prog_8_method_12_code
def yX6_append : MethodName := ⟨RX6, "append", "(LSoundWords$Heard;LSoundWords$Lexicon;II)V"⟩
def RX7 : String := "SoundWords$Row"
def TX7 : u_T := fun k => match k with
  | 0 => ("SoundWords$Row", "words", "[I", true)
  | _ => ("SoundWords$Row", "size", "I", false)
def tyX7 : Nat → FieldType := fun k => match k with
  | 0 => .array .int
  | _ => .int
theorem nmX7 : ∀ a, a < 2 → ∀ b, b < 2 → a ≠ b → (TX7 a).2.1 ≠ (TX7 b).2.1 := by decide +kernel
theorem tyX7_ok : ∀ k, k < 2 → parseFieldDescriptor (TX7 k).2.2.1 = some (tyX7 k) := by decide +kernel
abbrev cX7_init : ByteArray := prog_9_method_1_code
def yX7_init : MethodName := ⟨RX7, "<init>", "(I)V"⟩
abbrev cX7_size : ByteArray := prog_9_method_2_code
def yX7_size : MethodName := ⟨RX7, "size", "()I"⟩
abbrev cX7_at : ByteArray := prog_9_method_3_code
def yX7_at : MethodName := ⟨RX7, "at", "(I)I"⟩
abbrev cX7_add : ByteArray := prog_9_method_4_code
def yX7_add : MethodName := ⟨RX7, "add", "(I)V"⟩
abbrev cX7_clear : ByteArray := prog_9_method_5_code
def yX7_clear : MethodName := ⟨RX7, "clear", "()V"⟩
def RX8 : String := "SoundWords$Saying"
def TX8 : u_T := fun k => match k with
  | 0 => ("SoundWords$Saying", "starts", "[I", true)
  | 1 => ("SoundWords$Saying", "ends", "[I", true)
  | _ => ("SoundWords$Saying", "paid", "[I", true)
def tyX8 : Nat → FieldType := fun k => match k with
  | 0 => .array .int
  | 1 => .array .int
  | _ => .array .int
theorem nmX8 : ∀ a, a < 3 → ∀ b, b < 3 → a ≠ b → (TX8 a).2.1 ≠ (TX8 b).2.1 := by decide +kernel
theorem tyX8_ok : ∀ k, k < 3 → parseFieldDescriptor (TX8 k).2.2.1 = some (tyX8 k) := by decide +kernel
abbrev cX8_init : ByteArray := prog_10_method_1_code
def yX8_init : MethodName := ⟨RX8, "<init>", "()V"⟩
abbrev cX8_startNowhere : ByteArray := prog_10_method_2_code
def yX8_startNowhere : MethodName := ⟨RX8, "startNowhere", "()V"⟩
abbrev cX8_start : ByteArray := prog_10_method_3_code
def yX8_start : MethodName := ⟨RX8, "start", "(II)V"⟩
abbrev cX8_endAt : ByteArray := prog_10_method_4_code
def yX8_endAt : MethodName := ⟨RX8, "endAt", "(I)I"⟩
abbrev cX8_run : ByteArray := prog_10_method_5_code
def yX8_run : MethodName := ⟨RX8, "run", "(LSoundWords$Heard;LSoundWords$Lexicon;III)V"⟩
abbrev cX8_step : ByteArray := prog_10_method_6_code
def yX8_step : MethodName := ⟨RX8, "step", "(LSoundWords$Heard;LSoundWords$Lexicon;III)V"⟩
def RX9 : String := "SoundWords$Spotter"
def TX9 : u_T := fun k => match k with
  | 0 => ("SoundWords$Spotter", "saying", "LSoundWords$Saying;", true)
  | 1 => ("SoundWords$Spotter", "begin", "I", false)
  | 2 => ("SoundWords$Spotter", "end", "I", false)
  | _ => ("SoundWords$Spotter", "price", "I", false)
def tyX9 : Nat → FieldType := fun k => match k with
  | 0 => .object "SoundWords$Saying"
  | 1 => .int
  | 2 => .int
  | _ => .int
theorem nmX9 : ∀ a, a < 4 → ∀ b, b < 4 → a ≠ b → (TX9 a).2.1 ≠ (TX9 b).2.1 := by decide +kernel
theorem tyX9_ok : ∀ k, k < 4 → parseFieldDescriptor (TX9 k).2.2.1 = some (tyX9 k) := by decide +kernel
abbrev cX9_init : ByteArray := prog_11_method_1_code
def yX9_init : MethodName := ⟨RX9, "<init>", "()V"⟩
abbrev cX9_begin : ByteArray := prog_11_method_2_code
def yX9_begin : MethodName := ⟨RX9, "begin", "()I"⟩
abbrev cX9_end : ByteArray := prog_11_method_3_code
def yX9_end : MethodName := ⟨RX9, "end", "()I"⟩
abbrev cX9_price : ByteArray := prog_11_method_4_code
def yX9_price : MethodName := ⟨RX9, "price", "()I"⟩
abbrev cX9_find : ByteArray := prog_11_method_5_code
def yX9_find : MethodName := ⟨RX9, "find", "(LSoundWords$Heard;LSoundWords$Lexicon;I)Z"⟩
abbrev cX9_isCheaper : ByteArray := prog_11_method_6_code
def yX9_isCheaper : MethodName := ⟨RX9, "isCheaper", "(II)Z"⟩
def RX10 : String := "SoundWords"
def TX10 : u_T := fun k => match k with
  | 0 => ("SoundWords", "heard", "LSoundWords$Heard;", true)
  | 1 => ("SoundWords", "lexicon", "LSoundWords$Lexicon;", true)
  | 2 => ("SoundWords", "reading", "LSoundWords$Reading;", true)
  | 3 => ("SoundWords", "told", "LSoundWords$Row;", true)
  | 4 => ("SoundWords", "laying", "LSoundWords$Laying;", true)
  | 5 => ("SoundWords", "editing", "LSoundWords$Edits;", true)
  | 6 => ("SoundWords", "lessons", "LSoundWords$Lessons;", true)
  | 7 => ("SoundWords", "spotter", "LSoundWords$Spotter;", true)
  | _ => ("SoundWords", "hearing", "LSoundWords$Ears;", true)
def tyX10 : Nat → FieldType := fun k => match k with
  | 0 => .object "SoundWords$Heard"
  | 1 => .object "SoundWords$Lexicon"
  | 2 => .object "SoundWords$Reading"
  | 3 => .object "SoundWords$Row"
  | 4 => .object "SoundWords$Laying"
  | 5 => .object "SoundWords$Edits"
  | 6 => .object "SoundWords$Lessons"
  | 7 => .object "SoundWords$Spotter"
  | _ => .object "SoundWords$Ears"
theorem nmX10 : ∀ a, a < 9 → ∀ b, b < 9 → a ≠ b → (TX10 a).2.1 ≠ (TX10 b).2.1 := by decide +kernel
theorem tyX10_ok : ∀ k, k < 9 → parseFieldDescriptor (TX10 k).2.2.1 = some (tyX10 k) := by decide +kernel
abbrev cX10_init : ByteArray := prog_1_method_1_code
def yX10_init : MethodName := ⟨RX10, "<init>", "()V"⟩
abbrev cX10_feed : ByteArray := prog_1_method_2_code
def yX10_feed : MethodName := ⟨RX10, "feed", "(I)I"⟩
abbrev cX10_hush : ByteArray := prog_1_method_3_code
def yX10_hush : MethodName := ⟨RX10, "hush", "()I"⟩
abbrev cX10_cost : ByteArray := prog_1_method_4_code
def yX10_cost : MethodName := ⟨RX10, "cost", "(III)I"⟩
abbrev cX10_stay : ByteArray := prog_1_method_5_code
def yX10_stay : MethodName := ⟨RX10, "stay", "(I)I"⟩
abbrev cX10_word : ByteArray := prog_1_method_6_code
def yX10_word : MethodName := ⟨RX10, "word", "(IIII)I"⟩
abbrev cX10_way : ByteArray := prog_1_method_7_code
def yX10_way : MethodName := ⟨RX10, "way", "(IIIII)I"⟩
abbrev cX10_grammar : ByteArray := prog_1_method_8_code
def yX10_grammar : MethodName := ⟨RX10, "grammar", "(III)I"⟩
abbrev cX10_least : ByteArray := prog_1_method_9_code
def yX10_least : MethodName := ⟨RX10, "least", "()I"⟩
abbrev cX10_rowSize : ByteArray := prog_1_method_10_code
def yX10_rowSize : MethodName := ⟨RX10, "rowSize", "()I"⟩
abbrev cX10_rowAt : ByteArray := prog_1_method_11_code
def yX10_rowAt : MethodName := ⟨RX10, "rowAt", "(I)I"⟩
abbrev cX10_beside : ByteArray := prog_1_method_12_code
def yX10_beside : MethodName := ⟨RX10, "beside", "()I"⟩
abbrev cX10_say : ByteArray := prog_1_method_13_code
def yX10_say : MethodName := ⟨RX10, "say", "(I)I"⟩
abbrev cX10_unsay : ByteArray := prog_1_method_14_code
def yX10_unsay : MethodName := ⟨RX10, "unsay", "()I"⟩
abbrev cX10_lay : ByteArray := prog_1_method_15_code
def yX10_lay : MethodName := ⟨RX10, "lay", "()I"⟩
abbrev cX10_laid : ByteArray := prog_1_method_16_code
def yX10_laid : MethodName := ⟨RX10, "laid", "(II)I"⟩
abbrev cX10_edits : ByteArray := prog_1_method_17_code
def yX10_edits : MethodName := ⟨RX10, "edits", "()I"⟩
abbrev cX10_teach : ByteArray := prog_1_method_18_code
def yX10_teach : MethodName := ⟨RX10, "teach", "()I"⟩
abbrev cX10_unteach : ByteArray := prog_1_method_19_code
def yX10_unteach : MethodName := ⟨RX10, "unteach", "()I"⟩
abbrev cX10_taught : ByteArray := prog_1_method_20_code
def yX10_taught : MethodName := ⟨RX10, "taught", "(II)I"⟩
abbrev cX10_renew : ByteArray := prog_1_method_21_code
def yX10_renew : MethodName := ⟨RX10, "renew", "()I"⟩
abbrev cX10_spot : ByteArray := prog_1_method_22_code
def yX10_spot : MethodName := ⟨RX10, "spot", "(II)I"⟩
abbrev cX10_ears : ByteArray := prog_1_method_23_code
def yX10_ears : MethodName := ⟨RX10, "ears", "(III)I"⟩
abbrev cX10_speech : ByteArray := prog_1_method_24_code
def yX10_speech : MethodName := ⟨RX10, "speech", "(I)I"⟩
abbrev cX10_count : ByteArray := prog_1_method_25_code
def yX10_count : MethodName := ⟨RX10, "count", "(I)I"⟩
abbrev cX10_endWhatLeansOnThis : ByteArray := prog_1_method_26_code
def yX10_endWhatLeansOnThis : MethodName := ⟨RX10, "endWhatLeansOnThis", "()V"⟩
abbrev cX10_isWord : ByteArray := prog_1_method_27_code
def yX10_isWord : MethodName := ⟨RX10, "isWord", "(I)Z"⟩
abbrev cX10_isWordOrEdge : ByteArray := prog_1_method_28_code
def yX10_isWordOrEdge : MethodName := ⟨RX10, "isWordOrEdge", "(I)Z"⟩
abbrev cX10_isMark : ByteArray := prog_1_method_29_code
def yX10_isMark : MethodName := ⟨RX10, "isMark", "(I)Z"⟩
abbrev cX10_isSound : ByteArray := prog_1_method_30_code
def yX10_isSound : MethodName := ⟨RX10, "isSound", "(I)Z"⟩
abbrev cX10_areSounds : ByteArray := prog_1_method_31_code
def yX10_areSounds : MethodName := ⟨RX10, "areSounds", "(IIII)Z"⟩
abbrev cX10_mayFollow : ByteArray := prog_1_method_32_code
def yX10_mayFollow : MethodName := ⟨RX10, "mayFollow", "(II)Z"⟩
abbrev cX10_within : ByteArray := prog_1_method_33_code
def yX10_within : MethodName := ⟨RX10, "within", "(III)Z"⟩
def RX11 : String := "SoundWordsModel"
def TX11 : u_T := fun k => match k with
  | 0 => ("SoundWordsModel", "frames", "I", false)
  | 1 => ("SoundWordsModel", "mark", "[I", true)
  | 2 => ("SoundWordsModel", "cost", "[I", true)
  | 3 => ("SoundWordsModel", "stay", "I", false)
  | 4 => ("SoundWordsModel", "words", "I", false)
  | 5 => ("SoundWordsModel", "ways", "[I", true)
  | 6 => ("SoundWordsModel", "soundMany", "[I", true)
  | 7 => ("SoundWordsModel", "sound", "[I", true)
  | 8 => ("SoundWordsModel", "grammar", "[I", true)
  | 9 => ("SoundWordsModel", "toldMany", "I", false)
  | 10 => ("SoundWordsModel", "told", "[I", true)
  | 11 => ("SoundWordsModel", "isLaid", "Z", false)
  | 12 => ("SoundWordsModel", "laidSound", "[I", true)
  | 13 => ("SoundWordsModel", "laidPlace", "[I", true)
  | 14 => ("SoundWordsModel", "laidWay", "[I", true)
  | 15 => ("SoundWordsModel", "counts", "[I", true)
  | 16 => ("SoundWordsModel", "kept", "I", false)
  | 17 => ("SoundWordsModel", "keptMany", "[I", true)
  | 18 => ("SoundWordsModel", "keptCells", "[I", true)
  | 19 => ("SoundWordsModel", "level", "I", false)
  | 20 => ("SoundWordsModel", "rise", "I", false)
  | 21 => ("SoundWordsModel", "fall", "I", false)
  | 22 => ("SoundWordsModel", "on", "[I", true)
  | 23 => ("SoundWordsModel", "reach", "[I", true)
  | 24 => ("SoundWordsModel", "older", "[I", true)
  | 25 => ("SoundWordsModel", "rest", "[I", true)
  | 26 => ("SoundWordsModel", "rowMany", "I", false)
  | 27 => ("SoundWordsModel", "row", "[I", true)
  | 28 => ("SoundWordsModel", "gone", "[I", true)
  | 29 => ("SoundWordsModel", "then", "[I", true)
  | 30 => ("SoundWordsModel", "ahead", "[I", true)
  | _ => ("SoundWordsModel", "edit", "[I", true)
def tyX11 : Nat → FieldType := fun k => match k with
  | 0 => .int
  | 1 => .array .int
  | 2 => .array .int
  | 3 => .int
  | 4 => .int
  | 5 => .array .int
  | 6 => .array .int
  | 7 => .array .int
  | 8 => .array .int
  | 9 => .int
  | 10 => .array .int
  | 11 => .boolean
  | 12 => .array .int
  | 13 => .array .int
  | 14 => .array .int
  | 15 => .array .int
  | 16 => .int
  | 17 => .array .int
  | 18 => .array .int
  | 19 => .int
  | 20 => .int
  | 21 => .int
  | 22 => .array .int
  | 23 => .array .int
  | 24 => .array .int
  | 25 => .array .int
  | 26 => .int
  | 27 => .array .int
  | 28 => .array .int
  | 29 => .array .int
  | 30 => .array .int
  | _ => .array .int
theorem nmX11 : ∀ a, a < 32 → ∀ b, b < 32 → a ≠ b → (TX11 a).2.1 ≠ (TX11 b).2.1 := by decide +kernel
theorem tyX11_ok : ∀ k, k < 32 → parseFieldDescriptor (TX11 k).2.2.1 = some (tyX11 k) := by decide +kernel
abbrev cX11_init : ByteArray := prog_13_method_1_code
def yX11_init : MethodName := ⟨RX11, "<init>", "()V"⟩
abbrev cX11_in : ByteArray := prog_13_method_2_code
def yX11_in : MethodName := ⟨RX11, "in", "(III)Z"⟩
abbrev cX11_lesser : ByteArray := prog_13_method_3_code
def yX11_lesser : MethodName := ⟨RX11, "lesser", "(II)I"⟩
abbrev cX11_feed : ByteArray := prog_13_method_4_code
def yX11_feed : MethodName := ⟨RX11, "feed", "(I)I"⟩
abbrev cX11_hush : ByteArray := prog_13_method_5_code
def yX11_hush : MethodName := ⟨RX11, "hush", "()I"⟩
abbrev cX11_cost : ByteArray := prog_13_method_6_code
def yX11_cost : MethodName := ⟨RX11, "cost", "(III)I"⟩
abbrev cX11_stay : ByteArray := prog_13_method_7_code
def yX11_stay : MethodName := ⟨RX11, "stay", "(I)I"⟩
abbrev cX11_manyOf : ByteArray := prog_13_method_8_code
def yX11_manyOf : MethodName := ⟨RX11, "manyOf", "(IIII)I"⟩
abbrev cX11_layWay : ByteArray := prog_13_method_9_code
def yX11_layWay : MethodName := ⟨RX11, "layWay", "(IIIIII)V"⟩
abbrev cX11_word : ByteArray := prog_13_method_10_code
def yX11_word : MethodName := ⟨RX11, "word", "(IIII)I"⟩
abbrev cX11_isWord : ByteArray := prog_13_method_11_code
def yX11_isWord : MethodName := ⟨RX11, "isWord", "(I)Z"⟩
abbrev cX11_way : ByteArray := prog_13_method_12_code
def yX11_way : MethodName := ⟨RX11, "way", "(IIIII)I"⟩
abbrev cX11_behind : ByteArray := prog_13_method_13_code
def yX11_behind : MethodName := ⟨RX11, "behind", "(II)I"⟩
abbrev cX11_grammar : ByteArray := prog_13_method_14_code
def yX11_grammar : MethodName := ⟨RX11, "grammar", "(III)I"⟩
abbrev cX11_costOf : ByteArray := prog_13_method_15_code
def yX11_costOf : MethodName := ⟨RX11, "costOf", "(II)I"⟩
abbrev cX11_onAt : ByteArray := prog_13_method_16_code
def yX11_onAt : MethodName := ⟨RX11, "onAt", "(III)I"⟩
abbrev cX11_layOn : ByteArray := prog_13_method_17_code
def yX11_layOn : MethodName := ⟨RX11, "layOn", "(III)V"⟩
abbrev cX11_layAll : ByteArray := prog_13_method_18_code
def yX11_layAll : MethodName := ⟨RX11, "layAll", "()V"⟩
abbrev cX11_restAt : ByteArray := prog_13_method_19_code
def yX11_restAt : MethodName := ⟨RX11, "restAt", "(II)I"⟩
abbrev cX11_withNext : ByteArray := prog_13_method_20_code
def yX11_withNext : MethodName := ⟨RX11, "withNext", "(III)I"⟩
abbrev cX11_layRest : ByteArray := prog_13_method_21_code
def yX11_layRest : MethodName := ⟨RX11, "layRest", "()V"⟩
abbrev cX11_leastNow : ByteArray := prog_13_method_22_code
def yX11_leastNow : MethodName := ⟨RX11, "leastNow", "()I"⟩
abbrev cX11_least : ByteArray := prog_13_method_23_code
def yX11_least : MethodName := ⟨RX11, "least", "()I"⟩
abbrev cX11_goesOn : ByteArray := prog_13_method_24_code
def yX11_goesOn : MethodName := ⟨RX11, "goesOn", "(III)Z"⟩
abbrev cX11_findRow : ByteArray := prog_13_method_25_code
def yX11_findRow : MethodName := ⟨RX11, "findRow", "()Z"⟩
abbrev cX11_rowSize : ByteArray := prog_13_method_26_code
def yX11_rowSize : MethodName := ⟨RX11, "rowSize", "()I"⟩
abbrev cX11_rowAt : ByteArray := prog_13_method_27_code
def yX11_rowAt : MethodName := ⟨RX11, "rowAt", "(I)I"⟩
abbrev cX11_beside : ByteArray := prog_13_method_28_code
def yX11_beside : MethodName := ⟨RX11, "beside", "()I"⟩
abbrev cX11_say : ByteArray := prog_13_method_29_code
def yX11_say : MethodName := ⟨RX11, "say", "(I)I"⟩
abbrev cX11_unsay : ByteArray := prog_13_method_30_code
def yX11_unsay : MethodName := ⟨RX11, "unsay", "()I"⟩
abbrev cX11_aheadAt : ByteArray := prog_13_method_31_code
def yX11_aheadAt : MethodName := ⟨RX11, "aheadAt", "(IIII)I"⟩
abbrev cX11_behindWord : ByteArray := prog_13_method_32_code
def yX11_behindWord : MethodName := ⟨RX11, "behindWord", "(II)I"⟩
abbrev cX11_bestWay : ByteArray := prog_13_method_33_code
def yX11_bestWay : MethodName := ⟨RX11, "bestWay", "(II)I"⟩
abbrev cX11_soundTo : ByteArray := prog_13_method_34_code
def yX11_soundTo : MethodName := ⟨RX11, "soundTo", "(IIIII)I"⟩
abbrev cX11_layAhead : ByteArray := prog_13_method_35_code
def yX11_layAhead : MethodName := ⟨RX11, "layAhead", "()V"⟩
abbrev cX11_lay : ByteArray := prog_13_method_36_code
def yX11_lay : MethodName := ⟨RX11, "lay", "()I"⟩
abbrev cX11_laid : ByteArray := prog_13_method_37_code
def yX11_laid : MethodName := ⟨RX11, "laid", "(II)I"⟩
abbrev cX11_edits : ByteArray := prog_13_method_38_code
def yX11_edits : MethodName := ⟨RX11, "edits", "()I"⟩
abbrev cX11_teach : ByteArray := prog_13_method_39_code
def yX11_teach : MethodName := ⟨RX11, "teach", "()I"⟩
abbrev cX11_unteach : ByteArray := prog_13_method_40_code
def yX11_unteach : MethodName := ⟨RX11, "unteach", "()I"⟩
abbrev cX11_taught : ByteArray := prog_13_method_41_code
def yX11_taught : MethodName := ⟨RX11, "taught", "(II)I"⟩
abbrev cX11_renew : ByteArray := prog_13_method_42_code
def yX11_renew : MethodName := ⟨RX11, "renew", "()I"⟩
abbrev cX11_spot : ByteArray := prog_13_method_43_code
def yX11_spot : MethodName := ⟨RX11, "spot", "(II)I"⟩
abbrev cX11_ears : ByteArray := prog_13_method_44_code
def yX11_ears : MethodName := ⟨RX11, "ears", "(III)I"⟩
abbrev cX11_firstOf : ByteArray := prog_13_method_45_code
def yX11_firstOf : MethodName := ⟨RX11, "firstOf", "(IIZ)I"⟩
abbrev cX11_speech : ByteArray := prog_13_method_46_code
def yX11_speech : MethodName := ⟨RX11, "speech", "(I)I"⟩
abbrev cX11_count : ByteArray := prog_13_method_47_code
def yX11_count : MethodName := ⟨RX11, "count", "(I)I"⟩
def RJ9 : String := "java/lang/Math"
def TJ9 : u_T := fun k => match k with
  | _ => ("", "", "", false)
def tyJ9 : Nat → FieldType := fun k => match k with
  | _ => .int
theorem nmJ9 : ∀ a, a < 0 → ∀ b, b < 0 → a ≠ b → (TJ9 a).2.1 ≠ (TJ9 b).2.1 := by decide +kernel
theorem tyJ9_ok : ∀ k, k < 0 → parseFieldDescriptor (TJ9 k).2.2.1 = some (tyJ9 k) := by decide +kernel
abbrev cJ9_max_7cf53 : ByteArray := prog_14_method_65_code
def yJ9_max_7cf53 : MethodName := ⟨RJ9, "max", "(II)I"⟩
abbrev cJ9_min_7cf53 : ByteArray := prog_14_method_69_code
def yJ9_min_7cf53 : MethodName := ⟨RJ9, "min", "(II)I"⟩
def RJ7 : String := "java/util/Arrays"
def TJ7 : u_T := fun k => match k with
  | _ => ("", "", "", false)
def tyJ7 : Nat → FieldType := fun k => match k with
  | _ => .int
theorem nmJ7 : ∀ a, a < 0 → ∀ b, b < 0 → a ≠ b → (TJ7 a).2.1 ≠ (TJ7 b).2.1 := by decide +kernel
theorem tyJ7_ok : ∀ k, k < 0 → parseFieldDescriptor (TJ7 k).2.2.1 = some (tyJ7 k) := by decide +kernel
abbrev cJ7_fill_53178 : ByteArray := prog_15_method_103_code
def yJ7_fill_53178 : MethodName := ⟨RJ7, "fill", "([II)V"⟩
def RL : String := "SoundWordsLaw"
abbrev cL_law : ByteArray := code
def yL_law : MethodName := ⟨RL, "law", "([I)Z"⟩
abbrev vwCl : List vw_C := [(RX0, TX0, 3), (RX1, TX1, 1), (RX2, TX2, 4), (RX3, TX3, 6), (RX4, TX4, 4), (RX5, TX5, 5), (RX6, TX6, 7), (RX7, TX7, 2), (RX8, TX8, 3), (RX9, TX9, 4), (RX10, TX10, 9), (RX11, TX11, 32)]
theorem tb_len : lw_tbl.length = 1022 := by decide +kernel
def tw_tbl : List Cond := lw_tbl.filter goodWord
theorem tb_good {w : Cond} (h : w ∈ tw_tbl) : goodWord w = true := (List.mem_filter.mp h).2
theorem tb_in : GoodIn tw_tbl tw_tbl := fun w h => ⟨h, good_of_word (tb_good h)⟩
theorem tb_at {w : Cond} (i : Nat) (h : lw_tbl[i]? = some w) (g : goodWord w = true) : w ∈ tw_tbl := List.mem_filter.mpr ⟨List.mem_of_getElem? h, g⟩
set_option maxRecDepth 20000 in
theorem in_X0 : ∀ w ∈ u_ws RX0 TX0 3, w ∈ tw_tbl := by
  have h : u_ws RX0 TX0 3 = [259, 261, 263].filterMap (fun i => lw_tbl[i]?) := by decide +kernel
  intro w hw
  rw [h] at hw
  obtain ⟨i, -, hi⟩ := List.mem_filterMap.mp hw
  have hg : ([259, 261, 263].filterMap (fun i => lw_tbl[i]?)).all goodWord = true := by decide +kernel
  exact List.mem_filter.mpr ⟨List.mem_of_getElem? hi, List.all_eq_true.mp hg w hw⟩
set_option maxRecDepth 20000 in
theorem in_X1 : ∀ w ∈ u_ws RX1 TX1 1, w ∈ tw_tbl := by
  have h : u_ws RX1 TX1 1 = [206].filterMap (fun i => lw_tbl[i]?) := by decide +kernel
  intro w hw
  rw [h] at hw
  obtain ⟨i, -, hi⟩ := List.mem_filterMap.mp hw
  have hg : ([206].filterMap (fun i => lw_tbl[i]?)).all goodWord = true := by decide +kernel
  exact List.mem_filter.mpr ⟨List.mem_of_getElem? hi, List.all_eq_true.mp hg w hw⟩
set_option maxRecDepth 20000 in
theorem in_X2 : ∀ w ∈ u_ws RX2 TX2 4, w ∈ tw_tbl := by
  have h : u_ws RX2 TX2 4 = [76, 78, 80, 82].filterMap (fun i => lw_tbl[i]?) := by decide +kernel
  intro w hw
  rw [h] at hw
  obtain ⟨i, -, hi⟩ := List.mem_filterMap.mp hw
  have hg : ([76, 78, 80, 82].filterMap (fun i => lw_tbl[i]?)).all goodWord = true := by decide +kernel
  exact List.mem_filter.mpr ⟨List.mem_of_getElem? hi, List.all_eq_true.mp hg w hw⟩
set_option maxRecDepth 20000 in
theorem in_X3 : ∀ w ∈ u_ws RX3 TX3 6, w ∈ tw_tbl := by
  have h : u_ws RX3 TX3 6 = [186, 188, 190, 192, 194, 196].filterMap (fun i => lw_tbl[i]?) := by decide +kernel
  intro w hw
  rw [h] at hw
  obtain ⟨i, -, hi⟩ := List.mem_filterMap.mp hw
  have hg : ([186, 188, 190, 192, 194, 196].filterMap (fun i => lw_tbl[i]?)).all goodWord = true := by decide +kernel
  exact List.mem_filter.mpr ⟨List.mem_of_getElem? hi, List.all_eq_true.mp hg w hw⟩
set_option maxRecDepth 20000 in
theorem in_X4 : ∀ w ∈ u_ws RX4 TX4 4, w ∈ tw_tbl := by
  have h : u_ws RX4 TX4 4 = [220, 222, 224, 226].filterMap (fun i => lw_tbl[i]?) := by decide +kernel
  intro w hw
  rw [h] at hw
  obtain ⟨i, -, hi⟩ := List.mem_filterMap.mp hw
  have hg : ([220, 222, 224, 226].filterMap (fun i => lw_tbl[i]?)).all goodWord = true := by decide +kernel
  exact List.mem_filter.mpr ⟨List.mem_of_getElem? hi, List.all_eq_true.mp hg w hw⟩
set_option maxRecDepth 20000 in
theorem in_X5 : ∀ w ∈ u_ws RX5 TX5 5, w ∈ tw_tbl := by
  have h : u_ws RX5 TX5 5 = [98, 100, 102, 104, 106].filterMap (fun i => lw_tbl[i]?) := by decide +kernel
  intro w hw
  rw [h] at hw
  obtain ⟨i, -, hi⟩ := List.mem_filterMap.mp hw
  have hg : ([98, 100, 102, 104, 106].filterMap (fun i => lw_tbl[i]?)).all goodWord = true := by decide +kernel
  exact List.mem_filter.mpr ⟨List.mem_of_getElem? hi, List.all_eq_true.mp hg w hw⟩
set_option maxRecDepth 20000 in
theorem in_X6 : ∀ w ∈ u_ws RX6 TX6 7, w ∈ tw_tbl := by
  have h : u_ws RX6 TX6 7 = [156, 158, 160, 162, 164, 166, 168].filterMap (fun i => lw_tbl[i]?) := by decide +kernel
  intro w hw
  rw [h] at hw
  obtain ⟨i, -, hi⟩ := List.mem_filterMap.mp hw
  have hg : ([156, 158, 160, 162, 164, 166, 168].filterMap (fun i => lw_tbl[i]?)).all goodWord = true := by decide +kernel
  exact List.mem_filter.mpr ⟨List.mem_of_getElem? hi, List.all_eq_true.mp hg w hw⟩
set_option maxRecDepth 20000 in
theorem in_X7 : ∀ w ∈ u_ws RX7 TX7 2, w ∈ tw_tbl := by
  have h : u_ws RX7 TX7 2 = [143, 145].filterMap (fun i => lw_tbl[i]?) := by decide +kernel
  intro w hw
  rw [h] at hw
  obtain ⟨i, -, hi⟩ := List.mem_filterMap.mp hw
  have hg : ([143, 145].filterMap (fun i => lw_tbl[i]?)).all goodWord = true := by decide +kernel
  exact List.mem_filter.mpr ⟨List.mem_of_getElem? hi, List.all_eq_true.mp hg w hw⟩
set_option maxRecDepth 20000 in
theorem in_X8 : ∀ w ∈ u_ws RX8 TX8 3, w ∈ tw_tbl := by
  have h : u_ws RX8 TX8 3 = [125, 127, 129].filterMap (fun i => lw_tbl[i]?) := by decide +kernel
  intro w hw
  rw [h] at hw
  obtain ⟨i, -, hi⟩ := List.mem_filterMap.mp hw
  have hg : ([125, 127, 129].filterMap (fun i => lw_tbl[i]?)).all goodWord = true := by decide +kernel
  exact List.mem_filter.mpr ⟨List.mem_of_getElem? hi, List.all_eq_true.mp hg w hw⟩
set_option maxRecDepth 20000 in
theorem in_X9 : ∀ w ∈ u_ws RX9 TX9 4, w ∈ tw_tbl := by
  have h : u_ws RX9 TX9 4 = [241, 243, 245, 247].filterMap (fun i => lw_tbl[i]?) := by decide +kernel
  intro w hw
  rw [h] at hw
  obtain ⟨i, -, hi⟩ := List.mem_filterMap.mp hw
  have hg : ([241, 243, 245, 247].filterMap (fun i => lw_tbl[i]?)).all goodWord = true := by decide +kernel
  exact List.mem_filter.mpr ⟨List.mem_of_getElem? hi, List.all_eq_true.mp hg w hw⟩
set_option maxRecDepth 20000 in
theorem in_X10 : ∀ w ∈ u_ws RX10 TX10 9, w ∈ tw_tbl := by
  have h : u_ws RX10 TX10 9 = [275, 277, 279, 281, 283, 285, 287, 289, 291].filterMap (fun i => lw_tbl[i]?) := by decide +kernel
  intro w hw
  rw [h] at hw
  obtain ⟨i, -, hi⟩ := List.mem_filterMap.mp hw
  have hg : ([275, 277, 279, 281, 283, 285, 287, 289, 291].filterMap (fun i => lw_tbl[i]?)).all goodWord = true := by decide +kernel
  exact List.mem_filter.mpr ⟨List.mem_of_getElem? hi, List.all_eq_true.mp hg w hw⟩
set_option maxRecDepth 20000 in
theorem in_X11 : ∀ w ∈ u_ws RX11 TX11 32, w ∈ tw_tbl := by
  have h : u_ws RX11 TX11 32 = [777, 779, 781, 783, 785, 787, 789, 791, 793, 795, 797, 799, 801, 803, 805, 807, 809, 811, 813, 815, 817, 819, 821, 823, 825, 827, 829, 831, 833, 835, 837, 839].filterMap (fun i => lw_tbl[i]?) := by decide +kernel
  intro w hw
  rw [h] at hw
  obtain ⟨i, -, hi⟩ := List.mem_filterMap.mp hw
  have hg : ([777, 779, 781, 783, 785, 787, 789, 791, 793, 795, 797, 799, 801, 803, 805, 807, 809, 811, 813, 815, 817, 819, 821, 823, 825, 827, 829, 831, 833, 835, 837, 839].filterMap (fun i => lw_tbl[i]?)).all goodWord = true := by decide +kernel
  exact List.mem_filter.mpr ⟨List.mem_of_getElem? hi, List.all_eq_true.mp hg w hw⟩
