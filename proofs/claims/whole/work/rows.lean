section
-- ===== PART A: goes FIRST, ahead of the names: the tables' words, and 'selects' of the private methods out of them =====
/-- a private method of a class that the tables say can be made, by its rows of tables_1 -/
def lw_okq (q : MethodName × Nat) : Prop := (q.1.cls ≠ "java/lang/invoke/MethodHandle" ∧ q.1.cls ≠ "java/lang/invoke/VarHandle") ∧ Cond.instantiable q.1.cls q.2 ∈ tables_1 ∧ Cond.privateMethod q.1 ∈ tables_1 ∧ Cond.instanceMethod q.1 ∈ tables_1
theorem lw_p0 : lw_okq (⟨"TaggedRaster$Store", "byteOfLong", "(II)I"⟩, 3) := ⟨⟨by decide +kernel, by decide +kernel⟩, List.mem_of_getElem? (i := 24) (by decide +kernel), List.mem_of_getElem? (i := 238) (by decide +kernel), List.mem_of_getElem? (i := 239) (by decide +kernel)⟩
theorem lw_p1 : lw_okq (⟨"TaggedRaster$Labels", "indexOf", "(I)I"⟩, 4) := ⟨⟨by decide +kernel, by decide +kernel⟩, List.mem_of_getElem? (i := 93) (by decide +kernel), List.mem_of_getElem? (i := 371) (by decide +kernel), List.mem_of_getElem? (i := 372) (by decide +kernel)⟩
theorem lw_p2 : lw_okq (⟨"TaggedRaster$Walk", "wasMet", "(J)Z"⟩, 4) := ⟨⟨by decide +kernel, by decide +kernel⟩, List.mem_of_getElem? (i := 48) (by decide +kernel), List.mem_of_getElem? (i := 415) (by decide +kernel), List.mem_of_getElem? (i := 416) (by decide +kernel)⟩
theorem lw_p3 : lw_okq (⟨"TaggedRaster", "appendPage", "()I"⟩, 14) := ⟨⟨by decide +kernel, by decide +kernel⟩, List.mem_of_getElem? (i := 16) (by decide +kernel), List.mem_of_getElem? (i := 434) (by decide +kernel), List.mem_of_getElem? (i := 435) (by decide +kernel)⟩
theorem lw_p4 : lw_okq (⟨"TaggedRaster", "appendStrips", "()V"⟩, 14) := ⟨⟨by decide +kernel, by decide +kernel⟩, List.mem_of_getElem? (i := 16) (by decide +kernel), List.mem_of_getElem? (i := 449) (by decide +kernel), List.mem_of_getElem? (i := 450) (by decide +kernel)⟩
theorem lw_p5 : lw_okq (⟨"TaggedRaster", "appendRowsAsPackets", "(II)V"⟩, 14) := ⟨⟨by decide +kernel, by decide +kernel⟩, List.mem_of_getElem? (i := 16) (by decide +kernel), List.mem_of_getElem? (i := 480) (by decide +kernel), List.mem_of_getElem? (i := 481) (by decide +kernel)⟩
theorem lw_p6 : lw_okq (⟨"TaggedRaster$NibbleEncoder", "restartTable", "(LTaggedRaster$Store;)V"⟩, 6) := ⟨⟨by decide +kernel, by decide +kernel⟩, List.mem_of_getElem? (i := 160) (by decide +kernel), List.mem_of_getElem? (i := 502) (by decide +kernel), List.mem_of_getElem? (i := 503) (by decide +kernel)⟩
theorem lw_p7 : lw_okq (⟨"TaggedRaster$NibbleEncoder", "emit", "(ILTaggedRaster$Store;)V"⟩, 6) := ⟨⟨by decide +kernel, by decide +kernel⟩, List.mem_of_getElem? (i := 160) (by decide +kernel), List.mem_of_getElem? (i := 506) (by decide +kernel), List.mem_of_getElem? (i := 507) (by decide +kernel)⟩
theorem lw_p8 : lw_okq (⟨"TaggedRaster$NibbleEncoder", "child", "(II)I"⟩, 6) := ⟨⟨by decide +kernel, by decide +kernel⟩, List.mem_of_getElem? (i := 160) (by decide +kernel), List.mem_of_getElem? (i := 518) (by decide +kernel), List.mem_of_getElem? (i := 519) (by decide +kernel)⟩
theorem lw_p9 : lw_okq (⟨"TaggedRaster$NibbleEncoder", "addRow", "(II)V"⟩, 6) := ⟨⟨by decide +kernel, by decide +kernel⟩, List.mem_of_getElem? (i := 160) (by decide +kernel), List.mem_of_getElem? (i := 522) (by decide +kernel), List.mem_of_getElem? (i := 523) (by decide +kernel)⟩
theorem lw_p10 : lw_okq (⟨"TaggedRaster", "appendStripNumbers", "([I)I"⟩, 14) := ⟨⟨by decide +kernel, by decide +kernel⟩, List.mem_of_getElem? (i := 16) (by decide +kernel), List.mem_of_getElem? (i := 526) (by decide +kernel), List.mem_of_getElem? (i := 527) (by decide +kernel)⟩
theorem lw_p11 : lw_okq (⟨"TaggedRaster", "appendLongTexts", "()V"⟩, 14) := ⟨⟨by decide +kernel, by decide +kernel⟩, List.mem_of_getElem? (i := 16) (by decide +kernel), List.mem_of_getElem? (i := 531) (by decide +kernel), List.mem_of_getElem? (i := 532) (by decide +kernel)⟩
theorem lw_p12 : lw_okq (⟨"TaggedRaster", "appendDirectory", "(II)I"⟩, 14) := ⟨⟨by decide +kernel, by decide +kernel⟩, List.mem_of_getElem? (i := 16) (by decide +kernel), List.mem_of_getElem? (i := 548) (by decide +kernel), List.mem_of_getElem? (i := 549) (by decide +kernel)⟩
theorem lw_p13 : lw_okq (⟨"TaggedRaster", "appendShortEntry", "(II)V"⟩, 14) := ⟨⟨by decide +kernel, by decide +kernel⟩, List.mem_of_getElem? (i := 16) (by decide +kernel), List.mem_of_getElem? (i := 553) (by decide +kernel), List.mem_of_getElem? (i := 554) (by decide +kernel)⟩
theorem lw_p14 : lw_okq (⟨"TaggedRaster", "appendStripsEntry", "(II)V"⟩, 14) := ⟨⟨by decide +kernel, by decide +kernel⟩, List.mem_of_getElem? (i := 16) (by decide +kernel), List.mem_of_getElem? (i := 557) (by decide +kernel), List.mem_of_getElem? (i := 558) (by decide +kernel)⟩
theorem lw_p15 : lw_okq (⟨"TaggedRaster", "appendTextEntry", "(I)V"⟩, 14) := ⟨⟨by decide +kernel, by decide +kernel⟩, List.mem_of_getElem? (i := 16) (by decide +kernel), List.mem_of_getElem? (i := 561) (by decide +kernel), List.mem_of_getElem? (i := 562) (by decide +kernel)⟩
def lw_privs_1 : List (MethodName × Nat) := [(⟨"TaggedRaster$Store", "byteOfLong", "(II)I"⟩, 3), (⟨"TaggedRaster$Labels", "indexOf", "(I)I"⟩, 4), (⟨"TaggedRaster$Walk", "wasMet", "(J)Z"⟩, 4), (⟨"TaggedRaster", "appendPage", "()I"⟩, 14), (⟨"TaggedRaster", "appendStrips", "()V"⟩, 14), (⟨"TaggedRaster", "appendRowsAsPackets", "(II)V"⟩, 14), (⟨"TaggedRaster$NibbleEncoder", "restartTable", "(LTaggedRaster$Store;)V"⟩, 6), (⟨"TaggedRaster$NibbleEncoder", "emit", "(ILTaggedRaster$Store;)V"⟩, 6), (⟨"TaggedRaster$NibbleEncoder", "child", "(II)I"⟩, 6), (⟨"TaggedRaster$NibbleEncoder", "addRow", "(II)V"⟩, 6), (⟨"TaggedRaster", "appendStripNumbers", "([I)I"⟩, 14), (⟨"TaggedRaster", "appendLongTexts", "()V"⟩, 14), (⟨"TaggedRaster", "appendDirectory", "(II)I"⟩, 14), (⟨"TaggedRaster", "appendShortEntry", "(II)V"⟩, 14), (⟨"TaggedRaster", "appendStripsEntry", "(II)V"⟩, 14), (⟨"TaggedRaster", "appendTextEntry", "(I)V"⟩, 14)]
theorem lw_r1 : ∀ q ∈ lw_privs_1, lw_okq q := List.forall_mem_cons.mpr ⟨lw_p0, List.forall_mem_cons.mpr ⟨lw_p1, List.forall_mem_cons.mpr ⟨lw_p2, List.forall_mem_cons.mpr ⟨lw_p3, List.forall_mem_cons.mpr ⟨lw_p4, List.forall_mem_cons.mpr ⟨lw_p5, List.forall_mem_cons.mpr ⟨lw_p6, List.forall_mem_cons.mpr ⟨lw_p7, List.forall_mem_cons.mpr ⟨lw_p8, List.forall_mem_cons.mpr ⟨lw_p9, List.forall_mem_cons.mpr ⟨lw_p10, List.forall_mem_cons.mpr ⟨lw_p11, List.forall_mem_cons.mpr ⟨lw_p12, List.forall_mem_cons.mpr ⟨lw_p13, List.forall_mem_cons.mpr ⟨lw_p14, List.forall_mem_cons.mpr ⟨lw_p15, fun _ h => absurd h List.not_mem_nil⟩⟩⟩⟩⟩⟩⟩⟩⟩⟩⟩⟩⟩⟩⟩⟩
theorem lw_p16 : lw_okq (⟨"TaggedRaster", "readLayout", "(I)Z"⟩, 14) := ⟨⟨by decide +kernel, by decide +kernel⟩, List.mem_of_getElem? (i := 16) (by decide +kernel), List.mem_of_getElem? (i := 591) (by decide +kernel), List.mem_of_getElem? (i := 592) (by decide +kernel)⟩
theorem lw_p17 : lw_okq (⟨"TaggedRaster", "tagsGoUp", "(I)Z"⟩, 14) := ⟨⟨by decide +kernel, by decide +kernel⟩, List.mem_of_getElem? (i := 16) (by decide +kernel), List.mem_of_getElem? (i := 595) (by decide +kernel), List.mem_of_getElem? (i := 596) (by decide +kernel)⟩
theorem lw_p18 : lw_okq (⟨"TaggedRaster", "onlyNumber", "(II)J"⟩, 14) := ⟨⟨by decide +kernel, by decide +kernel⟩, List.mem_of_getElem? (i := 16) (by decide +kernel), List.mem_of_getElem? (i := 600) (by decide +kernel), List.mem_of_getElem? (i := 601) (by decide +kernel)⟩
theorem lw_p19 : lw_okq (⟨"TaggedRaster$Entry", "read", "(LTaggedRaster$Store;I)V"⟩, 4) := ⟨⟨by decide +kernel, by decide +kernel⟩, List.mem_of_getElem? (i := 201) (by decide +kernel), List.mem_of_getElem? (i := 609) (by decide +kernel), List.mem_of_getElem? (i := 610) (by decide +kernel)⟩
theorem lw_p20 : lw_okq (⟨"TaggedRaster$Entry", "valueBytes", "()I"⟩, 4) := ⟨⟨by decide +kernel, by decide +kernel⟩, List.mem_of_getElem? (i := 201) (by decide +kernel), List.mem_of_getElem? (i := 614) (by decide +kernel), List.mem_of_getElem? (i := 615) (by decide +kernel)⟩
theorem lw_p21 : lw_okq (⟨"TaggedRaster", "findStripNumbers", "(LTaggedRaster$Entry;II)Z"⟩, 14) := ⟨⟨by decide +kernel, by decide +kernel⟩, List.mem_of_getElem? (i := 16) (by decide +kernel), List.mem_of_getElem? (i := 633) (by decide +kernel), List.mem_of_getElem? (i := 634) (by decide +kernel)⟩
theorem lw_p22 : lw_okq (⟨"TaggedRaster", "decodeStrip", "(I)Z"⟩, 14) := ⟨⟨by decide +kernel, by decide +kernel⟩, List.mem_of_getElem? (i := 16) (by decide +kernel), List.mem_of_getElem? (i := 637) (by decide +kernel), List.mem_of_getElem? (i := 638) (by decide +kernel)⟩
theorem lw_p23 : lw_okq (⟨"TaggedRaster$NibbleDecoder", "rowSize", "(I)I"⟩, 3) := ⟨⟨by decide +kernel, by decide +kernel⟩, List.mem_of_getElem? (i := 185) (by decide +kernel), List.mem_of_getElem? (i := 656) (by decide +kernel), List.mem_of_getElem? (i := 657) (by decide +kernel)⟩
theorem lw_p24 : lw_okq (⟨"TaggedRaster$NibbleDecoder", "copyRow", "(LTaggedRaster$Data;III)V"⟩, 3) := ⟨⟨by decide +kernel, by decide +kernel⟩, List.mem_of_getElem? (i := 185) (by decide +kernel), List.mem_of_getElem? (i := 660) (by decide +kernel), List.mem_of_getElem? (i := 661) (by decide +kernel)⟩
theorem lw_p25 : lw_okq (⟨"TaggedRaster$NibbleDecoder", "noteCode", "(II)V"⟩, 3) := ⟨⟨by decide +kernel, by decide +kernel⟩, List.mem_of_getElem? (i := 185) (by decide +kernel), List.mem_of_getElem? (i := 669) (by decide +kernel), List.mem_of_getElem? (i := 670) (by decide +kernel)⟩
theorem lw_p26 : lw_okq (⟨"TaggedRaster", "findSoundEntry", "(II)Z"⟩, 14) := ⟨⟨by decide +kernel, by decide +kernel⟩, List.mem_of_getElem? (i := 16) (by decide +kernel), List.mem_of_getElem? (i := 682) (by decide +kernel), List.mem_of_getElem? (i := 683) (by decide +kernel)⟩
theorem lw_p27 : lw_okq (⟨"TaggedRasterModel", "walk", "()V"⟩, 30) := ⟨⟨by decide +kernel, by decide +kernel⟩, List.mem_of_getElem? (i := 690) (by decide +kernel), List.mem_of_getElem? (i := 839) (by decide +kernel), List.mem_of_getElem? (i := 840) (by decide +kernel)⟩
theorem lw_p28 : lw_okq (⟨"TaggedRasterModel", "read", "(II)J"⟩, 30) := ⟨⟨by decide +kernel, by decide +kernel⟩, List.mem_of_getElem? (i := 690) (by decide +kernel), List.mem_of_getElem? (i := 843) (by decide +kernel), List.mem_of_getElem? (i := 844) (by decide +kernel)⟩
theorem lw_p29 : lw_okq (⟨"TaggedRasterModel", "stands", "(J)Z"⟩, 30) := ⟨⟨by decide +kernel, by decide +kernel⟩, List.mem_of_getElem? (i := 690) (by decide +kernel), List.mem_of_getElem? (i := 849) (by decide +kernel), List.mem_of_getElem? (i := 850) (by decide +kernel)⟩
theorem lw_p30 : lw_okq (⟨"TaggedRasterModel", "entry", "(II)I"⟩, 30) := ⟨⟨by decide +kernel, by decide +kernel⟩, List.mem_of_getElem? (i := 690) (by decide +kernel), List.mem_of_getElem? (i := 865) (by decide +kernel), List.mem_of_getElem? (i := 866) (by decide +kernel)⟩
theorem lw_p31 : lw_okq (⟨"TaggedRasterModel", "values", "(I)J"⟩, 30) := ⟨⟨by decide +kernel, by decide +kernel⟩, List.mem_of_getElem? (i := 690) (by decide +kernel), List.mem_of_getElem? (i := 869) (by decide +kernel), List.mem_of_getElem? (i := 870) (by decide +kernel)⟩
def lw_privs_2 : List (MethodName × Nat) := [(⟨"TaggedRaster", "readLayout", "(I)Z"⟩, 14), (⟨"TaggedRaster", "tagsGoUp", "(I)Z"⟩, 14), (⟨"TaggedRaster", "onlyNumber", "(II)J"⟩, 14), (⟨"TaggedRaster$Entry", "read", "(LTaggedRaster$Store;I)V"⟩, 4), (⟨"TaggedRaster$Entry", "valueBytes", "()I"⟩, 4), (⟨"TaggedRaster", "findStripNumbers", "(LTaggedRaster$Entry;II)Z"⟩, 14), (⟨"TaggedRaster", "decodeStrip", "(I)Z"⟩, 14), (⟨"TaggedRaster$NibbleDecoder", "rowSize", "(I)I"⟩, 3), (⟨"TaggedRaster$NibbleDecoder", "copyRow", "(LTaggedRaster$Data;III)V"⟩, 3), (⟨"TaggedRaster$NibbleDecoder", "noteCode", "(II)V"⟩, 3), (⟨"TaggedRaster", "findSoundEntry", "(II)Z"⟩, 14), (⟨"TaggedRasterModel", "walk", "()V"⟩, 30), (⟨"TaggedRasterModel", "read", "(II)J"⟩, 30), (⟨"TaggedRasterModel", "stands", "(J)Z"⟩, 30), (⟨"TaggedRasterModel", "entry", "(II)I"⟩, 30), (⟨"TaggedRasterModel", "values", "(I)J"⟩, 30)]
theorem lw_r2 : ∀ q ∈ lw_privs_2, lw_okq q := List.forall_mem_cons.mpr ⟨lw_p16, List.forall_mem_cons.mpr ⟨lw_p17, List.forall_mem_cons.mpr ⟨lw_p18, List.forall_mem_cons.mpr ⟨lw_p19, List.forall_mem_cons.mpr ⟨lw_p20, List.forall_mem_cons.mpr ⟨lw_p21, List.forall_mem_cons.mpr ⟨lw_p22, List.forall_mem_cons.mpr ⟨lw_p23, List.forall_mem_cons.mpr ⟨lw_p24, List.forall_mem_cons.mpr ⟨lw_p25, List.forall_mem_cons.mpr ⟨lw_p26, List.forall_mem_cons.mpr ⟨lw_p27, List.forall_mem_cons.mpr ⟨lw_p28, List.forall_mem_cons.mpr ⟨lw_p29, List.forall_mem_cons.mpr ⟨lw_p30, List.forall_mem_cons.mpr ⟨lw_p31, fun _ h => absurd h List.not_mem_nil⟩⟩⟩⟩⟩⟩⟩⟩⟩⟩⟩⟩⟩⟩⟩⟩
theorem lw_p32 : lw_okq (⟨"TaggedRasterModel", "unit", "(I)I"⟩, 30) := ⟨⟨by decide +kernel, by decide +kernel⟩, List.mem_of_getElem? (i := 690) (by decide +kernel), List.mem_of_getElem? (i := 873) (by decide +kernel), List.mem_of_getElem? (i := 874) (by decide +kernel)⟩
theorem lw_p33 : lw_okq (⟨"TaggedRasterModel", "lay", "(IIII)V"⟩, 30) := ⟨⟨by decide +kernel, by decide +kernel⟩, List.mem_of_getElem? (i := 690) (by decide +kernel), List.mem_of_getElem? (i := 888) (by decide +kernel), List.mem_of_getElem? (i := 889) (by decide +kernel)⟩
theorem lw_p34 : lw_okq (⟨"TaggedRasterModel", "even", "()V"⟩, 30) := ⟨⟨by decide +kernel, by decide +kernel⟩, List.mem_of_getElem? (i := 690) (by decide +kernel), List.mem_of_getElem? (i := 892) (by decide +kernel), List.mem_of_getElem? (i := 893) (by decide +kernel)⟩
theorem lw_p35 : lw_okq (⟨"TaggedRasterModel", "put", "(I)V"⟩, 30) := ⟨⟨by decide +kernel, by decide +kernel⟩, List.mem_of_getElem? (i := 690) (by decide +kernel), List.mem_of_getElem? (i := 896) (by decide +kernel), List.mem_of_getElem? (i := 897) (by decide +kernel)⟩
theorem lw_p36 : lw_okq (⟨"TaggedRasterModel", "gather", "(III)V"⟩, 30) := ⟨⟨by decide +kernel, by decide +kernel⟩, List.mem_of_getElem? (i := 690) (by decide +kernel), List.mem_of_getElem? (i := 900) (by decide +kernel), List.mem_of_getElem? (i := 901) (by decide +kernel)⟩
theorem lw_p37 : lw_okq (⟨"TaggedRasterModel", "pack", "(II)V"⟩, 30) := ⟨⟨by decide +kernel, by decide +kernel⟩, List.mem_of_getElem? (i := 690) (by decide +kernel), List.mem_of_getElem? (i := 907) (by decide +kernel), List.mem_of_getElem? (i := 908) (by decide +kernel)⟩
theorem lw_p38 : lw_okq (⟨"TaggedRasterModel", "codes", "(I)V"⟩, 30) := ⟨⟨by decide +kernel, by decide +kernel⟩, List.mem_of_getElem? (i := 690) (by decide +kernel), List.mem_of_getElem? (i := 911) (by decide +kernel), List.mem_of_getElem? (i := 912) (by decide +kernel)⟩
theorem lw_p39 : lw_okq (⟨"TaggedRasterModel", "emit", "(II)V"⟩, 30) := ⟨⟨by decide +kernel, by decide +kernel⟩, List.mem_of_getElem? (i := 690) (by decide +kernel), List.mem_of_getElem? (i := 915) (by decide +kernel), List.mem_of_getElem? (i := 916) (by decide +kernel)⟩
theorem lw_p40 : lw_okq (⟨"TaggedRasterModel", "same", "(III)Z"⟩, 30) := ⟨⟨by decide +kernel, by decide +kernel⟩, List.mem_of_getElem? (i := 690) (by decide +kernel), List.mem_of_getElem? (i := 922) (by decide +kernel), List.mem_of_getElem? (i := 923) (by decide +kernel)⟩
theorem lw_p41 : lw_okq (⟨"TaggedRasterModel", "packets", "(II)V"⟩, 30) := ⟨⟨by decide +kernel, by decide +kernel⟩, List.mem_of_getElem? (i := 690) (by decide +kernel), List.mem_of_getElem? (i := 926) (by decide +kernel), List.mem_of_getElem? (i := 927) (by decide +kernel)⟩
theorem lw_p42 : lw_okq (⟨"TaggedRasterModel", "run", "(II)I"⟩, 30) := ⟨⟨by decide +kernel, by decide +kernel⟩, List.mem_of_getElem? (i := 690) (by decide +kernel), List.mem_of_getElem? (i := 930) (by decide +kernel), List.mem_of_getElem? (i := 931) (by decide +kernel)⟩
theorem lw_p43 : lw_okq (⟨"TaggedRasterModel", "number", "(IJ)V"⟩, 30) := ⟨⟨by decide +kernel, by decide +kernel⟩, List.mem_of_getElem? (i := 690) (by decide +kernel), List.mem_of_getElem? (i := 934) (by decide +kernel), List.mem_of_getElem? (i := 935) (by decide +kernel)⟩
theorem lw_p44 : lw_okq (⟨"TaggedRasterModel", "store", "(IIJ)V"⟩, 30) := ⟨⟨by decide +kernel, by decide +kernel⟩, List.mem_of_getElem? (i := 690) (by decide +kernel), List.mem_of_getElem? (i := 938) (by decide +kernel), List.mem_of_getElem? (i := 939) (by decide +kernel)⟩
theorem lw_p45 : lw_okq (⟨"TaggedRasterModel", "text", "(I)V"⟩, 30) := ⟨⟨by decide +kernel, by decide +kernel⟩, List.mem_of_getElem? (i := 690) (by decide +kernel), List.mem_of_getElem? (i := 942) (by decide +kernel), List.mem_of_getElem? (i := 943) (by decide +kernel)⟩
theorem lw_p46 : lw_okq (⟨"TaggedRasterModel", "directory", "(IIIIIII)V"⟩, 30) := ⟨⟨by decide +kernel, by decide +kernel⟩, List.mem_of_getElem? (i := 690) (by decide +kernel), List.mem_of_getElem? (i := 946) (by decide +kernel), List.mem_of_getElem? (i := 947) (by decide +kernel)⟩
theorem lw_p47 : lw_okq (⟨"TaggedRasterModel", "small", "(II)V"⟩, 30) := ⟨⟨by decide +kernel, by decide +kernel⟩, List.mem_of_getElem? (i := 690) (by decide +kernel), List.mem_of_getElem? (i := 950) (by decide +kernel), List.mem_of_getElem? (i := 951) (by decide +kernel)⟩
def lw_privs_3 : List (MethodName × Nat) := [(⟨"TaggedRasterModel", "unit", "(I)I"⟩, 30), (⟨"TaggedRasterModel", "lay", "(IIII)V"⟩, 30), (⟨"TaggedRasterModel", "even", "()V"⟩, 30), (⟨"TaggedRasterModel", "put", "(I)V"⟩, 30), (⟨"TaggedRasterModel", "gather", "(III)V"⟩, 30), (⟨"TaggedRasterModel", "pack", "(II)V"⟩, 30), (⟨"TaggedRasterModel", "codes", "(I)V"⟩, 30), (⟨"TaggedRasterModel", "emit", "(II)V"⟩, 30), (⟨"TaggedRasterModel", "same", "(III)Z"⟩, 30), (⟨"TaggedRasterModel", "packets", "(II)V"⟩, 30), (⟨"TaggedRasterModel", "run", "(II)I"⟩, 30), (⟨"TaggedRasterModel", "number", "(IJ)V"⟩, 30), (⟨"TaggedRasterModel", "store", "(IIJ)V"⟩, 30), (⟨"TaggedRasterModel", "text", "(I)V"⟩, 30), (⟨"TaggedRasterModel", "directory", "(IIIIIII)V"⟩, 30), (⟨"TaggedRasterModel", "small", "(II)V"⟩, 30)]
theorem lw_r3 : ∀ q ∈ lw_privs_3, lw_okq q := List.forall_mem_cons.mpr ⟨lw_p32, List.forall_mem_cons.mpr ⟨lw_p33, List.forall_mem_cons.mpr ⟨lw_p34, List.forall_mem_cons.mpr ⟨lw_p35, List.forall_mem_cons.mpr ⟨lw_p36, List.forall_mem_cons.mpr ⟨lw_p37, List.forall_mem_cons.mpr ⟨lw_p38, List.forall_mem_cons.mpr ⟨lw_p39, List.forall_mem_cons.mpr ⟨lw_p40, List.forall_mem_cons.mpr ⟨lw_p41, List.forall_mem_cons.mpr ⟨lw_p42, List.forall_mem_cons.mpr ⟨lw_p43, List.forall_mem_cons.mpr ⟨lw_p44, List.forall_mem_cons.mpr ⟨lw_p45, List.forall_mem_cons.mpr ⟨lw_p46, List.forall_mem_cons.mpr ⟨lw_p47, fun _ h => absurd h List.not_mem_nil⟩⟩⟩⟩⟩⟩⟩⟩⟩⟩⟩⟩⟩⟩⟩⟩
theorem lw_p48 : lw_okq (⟨"TaggedRasterModel", "head", "(III)V"⟩, 30) := ⟨⟨by decide +kernel, by decide +kernel⟩, List.mem_of_getElem? (i := 690) (by decide +kernel), List.mem_of_getElem? (i := 954) (by decide +kernel), List.mem_of_getElem? (i := 955) (by decide +kernel)⟩
theorem lw_p49 : lw_okq (⟨"TaggedRasterModel", "fields", "(I)Z"⟩, 30) := ⟨⟨by decide +kernel, by decide +kernel⟩, List.mem_of_getElem? (i := 690) (by decide +kernel), List.mem_of_getElem? (i := 962) (by decide +kernel), List.mem_of_getElem? (i := 963) (by decide +kernel)⟩
theorem lw_p50 : lw_okq (⟨"TaggedRasterModel", "one", "(II)J"⟩, 30) := ⟨⟨by decide +kernel, by decide +kernel⟩, List.mem_of_getElem? (i := 690) (by decide +kernel), List.mem_of_getElem? (i := 966) (by decide +kernel), List.mem_of_getElem? (i := 967) (by decide +kernel)⟩
theorem lw_p51 : lw_okq (⟨"TaggedRasterModel", "good", "(IIJ)I"⟩, 30) := ⟨⟨by decide +kernel, by decide +kernel⟩, List.mem_of_getElem? (i := 690) (by decide +kernel), List.mem_of_getElem? (i := 970) (by decide +kernel), List.mem_of_getElem? (i := 971) (by decide +kernel)⟩
theorem lw_p52 : lw_okq (⟨"TaggedRasterModel", "rising", "(I)Z"⟩, 30) := ⟨⟨by decide +kernel, by decide +kernel⟩, List.mem_of_getElem? (i := 690) (by decide +kernel), List.mem_of_getElem? (i := 975) (by decide +kernel), List.mem_of_getElem? (i := 976) (by decide +kernel)⟩
theorem lw_p53 : lw_okq (⟨"TaggedRasterModel", "strips", "()I"⟩, 30) := ⟨⟨by decide +kernel, by decide +kernel⟩, List.mem_of_getElem? (i := 690) (by decide +kernel), List.mem_of_getElem? (i := 982) (by decide +kernel), List.mem_of_getElem? (i := 983) (by decide +kernel)⟩
theorem lw_p54 : lw_okq (⟨"TaggedRasterModel", "strip", "(II)Z"⟩, 30) := ⟨⟨by decide +kernel, by decide +kernel⟩, List.mem_of_getElem? (i := 690) (by decide +kernel), List.mem_of_getElem? (i := 986) (by decide +kernel), List.mem_of_getElem? (i := 987) (by decide +kernel)⟩
theorem lw_p55 : lw_okq (⟨"TaggedRasterModel", "unpack", "(III)Z"⟩, 30) := ⟨⟨by decide +kernel, by decide +kernel⟩, List.mem_of_getElem? (i := 690) (by decide +kernel), List.mem_of_getElem? (i := 990) (by decide +kernel), List.mem_of_getElem? (i := 991) (by decide +kernel)⟩
theorem lw_p56 : lw_okq (⟨"TaggedRasterModel", "decode", "(III)Z"⟩, 30) := ⟨⟨by decide +kernel, by decide +kernel⟩, List.mem_of_getElem? (i := 690) (by decide +kernel), List.mem_of_getElem? (i := 994) (by decide +kernel), List.mem_of_getElem? (i := 995) (by decide +kernel)⟩
theorem lw_p57 : lw_okq (⟨"TaggedRasterModel", "code", "(III)I"⟩, 30) := ⟨⟨by decide +kernel, by decide +kernel⟩, List.mem_of_getElem? (i := 690) (by decide +kernel), List.mem_of_getElem? (i := 998) (by decide +kernel), List.mem_of_getElem? (i := 999) (by decide +kernel)⟩
theorem lw_p58 : lw_okq (⟨"TaggedRasterModel", "take", "(II)V"⟩, 30) := ⟨⟨by decide +kernel, by decide +kernel⟩, List.mem_of_getElem? (i := 690) (by decide +kernel), List.mem_of_getElem? (i := 1002) (by decide +kernel), List.mem_of_getElem? (i := 1003) (by decide +kernel)⟩
def lw_privs_4 : List (MethodName × Nat) := [(⟨"TaggedRasterModel", "head", "(III)V"⟩, 30), (⟨"TaggedRasterModel", "fields", "(I)Z"⟩, 30), (⟨"TaggedRasterModel", "one", "(II)J"⟩, 30), (⟨"TaggedRasterModel", "good", "(IIJ)I"⟩, 30), (⟨"TaggedRasterModel", "rising", "(I)Z"⟩, 30), (⟨"TaggedRasterModel", "strips", "()I"⟩, 30), (⟨"TaggedRasterModel", "strip", "(II)Z"⟩, 30), (⟨"TaggedRasterModel", "unpack", "(III)Z"⟩, 30), (⟨"TaggedRasterModel", "decode", "(III)Z"⟩, 30), (⟨"TaggedRasterModel", "code", "(III)I"⟩, 30), (⟨"TaggedRasterModel", "take", "(II)V"⟩, 30)]
theorem lw_r4 : ∀ q ∈ lw_privs_4, lw_okq q := List.forall_mem_cons.mpr ⟨lw_p48, List.forall_mem_cons.mpr ⟨lw_p49, List.forall_mem_cons.mpr ⟨lw_p50, List.forall_mem_cons.mpr ⟨lw_p51, List.forall_mem_cons.mpr ⟨lw_p52, List.forall_mem_cons.mpr ⟨lw_p53, List.forall_mem_cons.mpr ⟨lw_p54, List.forall_mem_cons.mpr ⟨lw_p55, List.forall_mem_cons.mpr ⟨lw_p56, List.forall_mem_cons.mpr ⟨lw_p57, List.forall_mem_cons.mpr ⟨lw_p58, fun _ h => absurd h List.not_mem_nil⟩⟩⟩⟩⟩⟩⟩⟩⟩⟩⟩
def lw_privs : List (MethodName × Nat) := lw_privs_1 ++ (lw_privs_2 ++ (lw_privs_3 ++ (lw_privs_4)))
def lw_tbl : List Cond := k2_sels lw_privs ++ tables_1
theorem lw_privs_ok : ∀ q ∈ lw_privs, lw_okq q := by
  show ∀ q ∈ lw_privs_1 ++ (lw_privs_2 ++ (lw_privs_3 ++ (lw_privs_4))), lw_okq q
  exact List.forall_mem_append.mpr ⟨lw_r1, List.forall_mem_append.mpr ⟨lw_r2, List.forall_mem_append.mpr ⟨lw_r3, lw_r4⟩⟩⟩
end
section
def GL : List Cond := lw_tbl.filter goodWord
theorem tw {w : Cond} {k : Nat} (h : lw_tbl[k]? = some w) (hg : goodWord w = true) : w ∈ GL := List.mem_filter.mpr ⟨List.mem_of_getElem? h, hg⟩
theorem GL_good : ∀ w ∈ GL, (w.onTables && w.keeps) = true ∨ ∃ ty, w = .arrayClass ty := fun w h => good_of_word (List.mem_filter.mp h).2
theorem GL_tbl : ∀ w ∈ GL, w ∈ lw_tbl := fun w h => (List.mem_filter.mp h).1
def RL : String := "TaggedRasterLaw"
def R_Da : String := "TaggedRaster$Data"
def R_En : String := "TaggedRaster$Entry"
def R_Lb : String := "TaggedRaster$Labels"
def R_Ly : String := "TaggedRaster$Layout"
def R_Nd : String := "TaggedRaster$NibbleDecoder"
def R_Ne : String := "TaggedRaster$NibbleEncoder"
def R_Pi : String := "TaggedRaster$Picture"
def R_St : String := "TaggedRaster$Store"
def R_Wk : String := "TaggedRaster$Walk"
def R_X : String := "TaggedRaster"
def R_M : String := "TaggedRasterModel"
def R_Pk : String := "TaggedRaster$Packets"
def R_J : String := "java/util/Arrays"
def T_Da : u_T := fun k => match k with
  | _ => (R_Da, "bytes", "[I", true)
def t_Da : Nat → FieldType := fun k => match k with
  | _ => .array .int
theorem nok_Da : ∀ a, a < 1 → ∀ b, b < 1 → a ≠ b → (T_Da a).2.1 ≠ (T_Da b).2.1 := by decide +kernel
theorem tok_Da : ∀ k, k < 1 → parseFieldDescriptor (T_Da k).2.2.1 = some (t_Da k) := by decide +kernel
theorem gz_defDa : ∀ j, j < 1 → defaultValue (t_Da j) = vp_V [.null] j := fun j hj => by match j, hj with
  | 0, _ => rfl
  | j + 1, h => exact absurd h (by omega)
abbrev oDa (a : Nat) (A : Nat → Nat) : Nat × va_E := (a, .inr (0, [.ref (A 0)]))
def T_En : u_T := fun k => match k with
  | 0 => (R_En, "kind", "I", false)
  | 1 => (R_En, "count", "J", false)
  | 2 => (R_En, "place", "J", false)
  | _ => (R_En, "broken", "Z", false)
def t_En : Nat → FieldType := fun k => match k with
  | 0 => .int
  | 1 => .long
  | 2 => .long
  | _ => .boolean
theorem nok_En : ∀ a, a < 4 → ∀ b, b < 4 → a ≠ b → (T_En a).2.1 ≠ (T_En b).2.1 := by decide +kernel
theorem tok_En : ∀ k, k < 4 → parseFieldDescriptor (T_En k).2.2.1 = some (t_En k) := by decide +kernel
theorem gz_defEn : ∀ j, j < 4 → defaultValue (t_En j) = vp_V [.int 0, .long 0, .long 0, .int 0] j := fun j hj => by match j, hj with
  | 0, _ => rfl
  | 1, _ => rfl
  | 2, _ => rfl
  | 3, _ => rfl
  | j + 4, h => exact absurd h (by omega)
abbrev oEn (a : Nat) (I : Nat → Int32) (L : Nat → Int64) : Nat × va_E := (a, .inr (1, [.int (I 0), .long (L 1), .long (L 2), .int (I 3)]))
def T_Lb : u_T := fun k => match k with
  | 0 => (R_Lb, "tags", "[I", true)
  | 1 => (R_Lb, "sizes", "[I", true)
  | 2 => (R_Lb, "characters", "[I", true)
  | _ => (R_Lb, "count", "I", false)
def t_Lb : Nat → FieldType := fun k => match k with
  | 0 => .array .int
  | 1 => .array .int
  | 2 => .array .int
  | _ => .int
theorem nok_Lb : ∀ a, a < 4 → ∀ b, b < 4 → a ≠ b → (T_Lb a).2.1 ≠ (T_Lb b).2.1 := by decide +kernel
theorem tok_Lb : ∀ k, k < 4 → parseFieldDescriptor (T_Lb k).2.2.1 = some (t_Lb k) := by decide +kernel
theorem gz_defLb : ∀ j, j < 4 → defaultValue (t_Lb j) = vp_V [.null, .null, .null, .int 0] j := fun j hj => by match j, hj with
  | 0, _ => rfl
  | 1, _ => rfl
  | 2, _ => rfl
  | 3, _ => rfl
  | j + 4, h => exact absurd h (by omega)
abbrev oLb (a : Nat) (A : Nat → Nat) (I : Nat → Int32) : Nat × va_E := (a, .inr (2, [.ref (A 0), .ref (A 1), .ref (A 2), .int (I 3)]))
def T_Ly : u_T := fun k => match k with
  | 0 => (R_Ly, "columns", "I", false)
  | 1 => (R_Ly, "rows", "I", false)
  | 2 => (R_Ly, "depth", "I", false)
  | 3 => (R_Ly, "compression", "I", false)
  | 4 => (R_Ly, "rowsAStrip", "I", false)
  | _ => (R_Ly, "predictor", "I", false)
def t_Ly : Nat → FieldType := fun k => match k with
  | 0 => .int
  | 1 => .int
  | 2 => .int
  | 3 => .int
  | 4 => .int
  | _ => .int
theorem nok_Ly : ∀ a, a < 6 → ∀ b, b < 6 → a ≠ b → (T_Ly a).2.1 ≠ (T_Ly b).2.1 := by decide +kernel
theorem tok_Ly : ∀ k, k < 6 → parseFieldDescriptor (T_Ly k).2.2.1 = some (t_Ly k) := by decide +kernel
theorem gz_defLy : ∀ j, j < 6 → defaultValue (t_Ly j) = vp_V [.int 0, .int 0, .int 0, .int 0, .int 0, .int 0] j := fun j hj => by match j, hj with
  | 0, _ => rfl
  | 1, _ => rfl
  | 2, _ => rfl
  | 3, _ => rfl
  | 4, _ => rfl
  | 5, _ => rfl
  | j + 6, h => exact absurd h (by omega)
abbrev oLy (a : Nat) (I : Nat → Int32) : Nat × va_E := (a, .inr (3, [.int (I 0), .int (I 1), .int (I 2), .int (I 3), .int (I 4), .int (I 5)]))
def T_Nd : u_T := fun k => match k with
  | 0 => (R_Nd, "starts", "[I", true)
  | 1 => (R_Nd, "sizes", "[I", true)
  | _ => (R_Nd, "codeNumber", "I", false)
def t_Nd : Nat → FieldType := fun k => match k with
  | 0 => .array .int
  | 1 => .array .int
  | _ => .int
theorem nok_Nd : ∀ a, a < 3 → ∀ b, b < 3 → a ≠ b → (T_Nd a).2.1 ≠ (T_Nd b).2.1 := by decide +kernel
theorem tok_Nd : ∀ k, k < 3 → parseFieldDescriptor (T_Nd k).2.2.1 = some (t_Nd k) := by decide +kernel
theorem gz_defNd : ∀ j, j < 3 → defaultValue (t_Nd j) = vp_V [.null, .null, .int 0] j := fun j hj => by match j, hj with
  | 0, _ => rfl
  | 1, _ => rfl
  | 2, _ => rfl
  | j + 3, h => exact absurd h (by omega)
abbrev oNd (a : Nat) (A : Nat → Nat) (I : Nat → Int32) : Nat × va_E := (a, .inr (4, [.ref (A 0), .ref (A 1), .int (I 2)]))
def T_Ne : u_T := fun k => match k with
  | 0 => (R_Ne, "firstChild", "[I", true)
  | 1 => (R_Ne, "nextSibling", "[I", true)
  | 2 => (R_Ne, "lastNibble", "[I", true)
  | 3 => (R_Ne, "codeNumber", "I", false)
  | 4 => (R_Ne, "pending", "I", false)
  | _ => (R_Ne, "pendingBits", "I", false)
def t_Ne : Nat → FieldType := fun k => match k with
  | 0 => .array .int
  | 1 => .array .int
  | 2 => .array .int
  | 3 => .int
  | 4 => .int
  | _ => .int
theorem nok_Ne : ∀ a, a < 6 → ∀ b, b < 6 → a ≠ b → (T_Ne a).2.1 ≠ (T_Ne b).2.1 := by decide +kernel
theorem tok_Ne : ∀ k, k < 6 → parseFieldDescriptor (T_Ne k).2.2.1 = some (t_Ne k) := by decide +kernel
theorem gz_defNe : ∀ j, j < 6 → defaultValue (t_Ne j) = vp_V [.null, .null, .null, .int 0, .int 0, .int 0] j := fun j hj => by match j, hj with
  | 0, _ => rfl
  | 1, _ => rfl
  | 2, _ => rfl
  | 3, _ => rfl
  | 4, _ => rfl
  | 5, _ => rfl
  | j + 6, h => exact absurd h (by omega)
abbrev oNe (a : Nat) (A : Nat → Nat) (I : Nat → Int32) : Nat × va_E := (a, .inr (5, [.ref (A 0), .ref (A 1), .ref (A 2), .int (I 3), .int (I 4), .int (I 5)]))
def T_Pi : u_T := fun k => match k with
  | 0 => (R_Pi, "samples", "[I", true)
  | 1 => (R_Pi, "columns", "I", false)
  | 2 => (R_Pi, "rows", "I", false)
  | _ => (R_Pi, "depth", "I", false)
def t_Pi : Nat → FieldType := fun k => match k with
  | 0 => .array .int
  | 1 => .int
  | 2 => .int
  | _ => .int
theorem nok_Pi : ∀ a, a < 4 → ∀ b, b < 4 → a ≠ b → (T_Pi a).2.1 ≠ (T_Pi b).2.1 := by decide +kernel
theorem tok_Pi : ∀ k, k < 4 → parseFieldDescriptor (T_Pi k).2.2.1 = some (t_Pi k) := by decide +kernel
theorem gz_defPi : ∀ j, j < 4 → defaultValue (t_Pi j) = vp_V [.null, .int 0, .int 0, .int 0] j := fun j hj => by match j, hj with
  | 0, _ => rfl
  | 1, _ => rfl
  | 2, _ => rfl
  | 3, _ => rfl
  | j + 4, h => exact absurd h (by omega)
abbrev oPi (a : Nat) (A : Nat → Nat) (I : Nat → Int32) : Nat × va_E := (a, .inr (6, [.ref (A 0), .int (I 1), .int (I 2), .int (I 3)]))
def T_St : u_T := fun k => match k with
  | 0 => (R_St, "bytes", "[I", true)
  | 1 => (R_St, "size", "I", false)
  | _ => (R_St, "end", "I", false)
def t_St : Nat → FieldType := fun k => match k with
  | 0 => .array .int
  | 1 => .int
  | _ => .int
theorem nok_St : ∀ a, a < 3 → ∀ b, b < 3 → a ≠ b → (T_St a).2.1 ≠ (T_St b).2.1 := by decide +kernel
theorem tok_St : ∀ k, k < 3 → parseFieldDescriptor (T_St k).2.2.1 = some (t_St k) := by decide +kernel
theorem gz_defSt : ∀ j, j < 3 → defaultValue (t_St j) = vp_V [.null, .int 0, .int 0] j := fun j hj => by match j, hj with
  | 0, _ => rfl
  | 1, _ => rfl
  | 2, _ => rfl
  | j + 3, h => exact absurd h (by omega)
abbrev oSt (a : Nat) (A : Nat → Nat) (I : Nat → Int32) : Nat × va_E := (a, .inr (7, [.ref (A 0), .int (I 1), .int (I 2)]))
def T_Wk : u_T := fun k => match k with
  | 0 => (R_Wk, "places", "[I", true)
  | 1 => (R_Wk, "met", "I", false)
  | 2 => (R_Wk, "ended", "Z", false)
  | _ => (R_Wk, "link", "I", false)
def t_Wk : Nat → FieldType := fun k => match k with
  | 0 => .array .int
  | 1 => .int
  | 2 => .boolean
  | _ => .int
theorem nok_Wk : ∀ a, a < 4 → ∀ b, b < 4 → a ≠ b → (T_Wk a).2.1 ≠ (T_Wk b).2.1 := by decide +kernel
theorem tok_Wk : ∀ k, k < 4 → parseFieldDescriptor (T_Wk k).2.2.1 = some (t_Wk k) := by decide +kernel
theorem gz_defWk : ∀ j, j < 4 → defaultValue (t_Wk j) = vp_V [.null, .int 0, .int 0, .int 0] j := fun j hj => by match j, hj with
  | 0, _ => rfl
  | 1, _ => rfl
  | 2, _ => rfl
  | 3, _ => rfl
  | j + 4, h => exact absurd h (by omega)
abbrev oWk (a : Nat) (A : Nat → Nat) (I : Nat → Int32) : Nat × va_E := (a, .inr (8, [.ref (A 0), .int (I 1), .int (I 2), .int (I 3)]))
def T_X : u_T := fun k => match k with
  | 0 => (R_X, "file", "LTaggedRaster$Store;", true)
  | 1 => (R_X, "walk", "LTaggedRaster$Walk;", true)
  | 2 => (R_X, "picture", "LTaggedRaster$Picture;", true)
  | 3 => (R_X, "labels", "LTaggedRaster$Labels;", true)
  | 4 => (R_X, "layout", "LTaggedRaster$Layout;", true)
  | 5 => (R_X, "data", "LTaggedRaster$Data;", true)
  | 6 => (R_X, "encoder", "LTaggedRaster$NibbleEncoder;", true)
  | 7 => (R_X, "decoder", "LTaggedRaster$NibbleDecoder;", true)
  | 8 => (R_X, "entry", "LTaggedRaster$Entry;", true)
  | 9 => (R_X, "stripPlaces", "LTaggedRaster$Entry;", true)
  | 10 => (R_X, "stripLengths", "LTaggedRaster$Entry;", true)
  | 11 => (R_X, "writtenPlaces", "[I", true)
  | 12 => (R_X, "writtenLengths", "[I", true)
  | _ => (R_X, "writtenTexts", "[I", true)
def t_X : Nat → FieldType := fun k => match k with
  | 0 => .object "TaggedRaster$Store"
  | 1 => .object "TaggedRaster$Walk"
  | 2 => .object "TaggedRaster$Picture"
  | 3 => .object "TaggedRaster$Labels"
  | 4 => .object "TaggedRaster$Layout"
  | 5 => .object "TaggedRaster$Data"
  | 6 => .object "TaggedRaster$NibbleEncoder"
  | 7 => .object "TaggedRaster$NibbleDecoder"
  | 8 => .object "TaggedRaster$Entry"
  | 9 => .object "TaggedRaster$Entry"
  | 10 => .object "TaggedRaster$Entry"
  | 11 => .array .int
  | 12 => .array .int
  | _ => .array .int
theorem nok_X : ∀ a, a < 14 → ∀ b, b < 14 → a ≠ b → (T_X a).2.1 ≠ (T_X b).2.1 := by decide +kernel
theorem tok_X : ∀ k, k < 14 → parseFieldDescriptor (T_X k).2.2.1 = some (t_X k) := by decide +kernel
theorem gz_defX : ∀ j, j < 14 → defaultValue (t_X j) = vp_V [.null, .null, .null, .null, .null, .null, .null, .null, .null, .null, .null, .null, .null, .null] j := fun j hj => by match j, hj with
  | 0, _ => rfl
  | 1, _ => rfl
  | 2, _ => rfl
  | 3, _ => rfl
  | 4, _ => rfl
  | 5, _ => rfl
  | 6, _ => rfl
  | 7, _ => rfl
  | 8, _ => rfl
  | 9, _ => rfl
  | 10, _ => rfl
  | 11, _ => rfl
  | 12, _ => rfl
  | 13, _ => rfl
  | j + 14, h => exact absurd h (by omega)
abbrev oX (a : Nat) (A : Nat → Nat) : Nat × va_E := (a, .inr (9, [.ref (A 0), .ref (A 1), .ref (A 2), .ref (A 3), .ref (A 4), .ref (A 5), .ref (A 6), .ref (A 7), .ref (A 8), .ref (A 9), .ref (A 10), .ref (A 11), .ref (A 12), .ref (A 13)]))
def T_M : u_T := fun k => match k with
  | 0 => (R_M, "file", "[I", false)
  | 1 => (R_M, "size", "I", false)
  | 2 => (R_M, "end", "I", false)
  | 3 => (R_M, "w", "I", false)
  | 4 => (R_M, "h", "I", false)
  | 5 => (R_M, "d", "I", false)
  | 6 => (R_M, "samples", "[I", false)
  | 7 => (R_M, "labels", "I", false)
  | 8 => (R_M, "tags", "[I", false)
  | 9 => (R_M, "lengths", "[I", false)
  | 10 => (R_M, "letters", "[I", false)
  | 11 => (R_M, "met", "I", false)
  | 12 => (R_M, "whole", "Z", false)
  | 13 => (R_M, "dirs", "[I", false)
  | 14 => (R_M, "last", "I", false)
  | 15 => (R_M, "data", "[I", false)
  | 16 => (R_M, "nibs", "[I", false)
  | 17 => (R_M, "start", "[I", false)
  | 18 => (R_M, "many", "[I", false)
  | 19 => (R_M, "first", "I", false)
  | 20 => (R_M, "bits", "I", false)
  | 21 => (R_M, "places", "[I", false)
  | 22 => (R_M, "sizes", "[I", false)
  | 23 => (R_M, "cols", "I", false)
  | 24 => (R_M, "rows", "I", false)
  | 25 => (R_M, "depth", "I", false)
  | 26 => (R_M, "method", "I", false)
  | 27 => (R_M, "each", "I", false)
  | 28 => (R_M, "predictor", "I", false)
  | _ => (R_M, "next", "[I", false)
def t_M : Nat → FieldType := fun k => match k with
  | 0 => .array .int
  | 1 => .int
  | 2 => .int
  | 3 => .int
  | 4 => .int
  | 5 => .int
  | 6 => .array .int
  | 7 => .int
  | 8 => .array .int
  | 9 => .array .int
  | 10 => .array .int
  | 11 => .int
  | 12 => .boolean
  | 13 => .array .int
  | 14 => .int
  | 15 => .array .int
  | 16 => .array .int
  | 17 => .array .int
  | 18 => .array .int
  | 19 => .int
  | 20 => .int
  | 21 => .array .int
  | 22 => .array .int
  | 23 => .int
  | 24 => .int
  | 25 => .int
  | 26 => .int
  | 27 => .int
  | 28 => .int
  | _ => .array .int
theorem nok_M : ∀ a, a < 30 → ∀ b, b < 30 → a ≠ b → (T_M a).2.1 ≠ (T_M b).2.1 := by decide +kernel
theorem tok_M : ∀ k, k < 30 → parseFieldDescriptor (T_M k).2.2.1 = some (t_M k) := by decide +kernel
theorem gz_defM : ∀ j, j < 30 → defaultValue (t_M j) = vp_V [.null, .int 0, .int 0, .int 0, .int 0, .int 0, .null, .int 0, .null, .null, .null, .int 0, .int 0, .null, .int 0, .null, .null, .null, .null, .int 0, .int 0, .null, .null, .int 0, .int 0, .int 0, .int 0, .int 0, .int 0, .null] j := fun j hj => by match j, hj with
  | 0, _ => rfl
  | 1, _ => rfl
  | 2, _ => rfl
  | 3, _ => rfl
  | 4, _ => rfl
  | 5, _ => rfl
  | 6, _ => rfl
  | 7, _ => rfl
  | 8, _ => rfl
  | 9, _ => rfl
  | 10, _ => rfl
  | 11, _ => rfl
  | 12, _ => rfl
  | 13, _ => rfl
  | 14, _ => rfl
  | 15, _ => rfl
  | 16, _ => rfl
  | 17, _ => rfl
  | 18, _ => rfl
  | 19, _ => rfl
  | 20, _ => rfl
  | 21, _ => rfl
  | 22, _ => rfl
  | 23, _ => rfl
  | 24, _ => rfl
  | 25, _ => rfl
  | 26, _ => rfl
  | 27, _ => rfl
  | 28, _ => rfl
  | 29, _ => rfl
  | j + 30, h => exact absurd h (by omega)
abbrev oM (a : Nat) (A : Nat → Nat) (I : Nat → Int32) : Nat × va_E := (a, .inr (10, [.ref (A 0), .int (I 1), .int (I 2), .int (I 3), .int (I 4), .int (I 5), .ref (A 6), .int (I 7), .ref (A 8), .ref (A 9), .ref (A 10), .int (I 11), .int (I 12), .ref (A 13), .int (I 14), .ref (A 15), .ref (A 16), .ref (A 17), .ref (A 18), .int (I 19), .int (I 20), .ref (A 21), .ref (A 22), .int (I 23), .int (I 24), .int (I 25), .int (I 26), .int (I 27), .int (I 28), .ref (A 29)]))
abbrev vwCl : List vw_C := [(R_Da, T_Da, 1), (R_En, T_En, 4), (R_Lb, T_Lb, 4), (R_Ly, T_Ly, 6), (R_Nd, T_Nd, 3), (R_Ne, T_Ne, 6), (R_Pi, T_Pi, 4), (R_St, T_St, 3), (R_Wk, T_Wk, 4), (R_X, T_X, 14), (R_M, T_M, 30)]
abbrev b_X_init : ByteArray := prog_1_method_1_code
def y_X_init : MethodName := ⟨R_X, "<init>", "()V"⟩
abbrev ws_X_init : List Cond := .code y_X_init b_X_init 1 none :: GL
abbrev b_St_init : ByteArray := prog_10_method_1_code
def y_St_init : MethodName := ⟨R_St, "<init>", "()V"⟩
abbrev ws_St_init : List Cond := .code y_St_init b_St_init 1 none :: GL
abbrev b_Wk_init : ByteArray := prog_11_method_1_code
def y_Wk_init : MethodName := ⟨R_Wk, "<init>", "()V"⟩
abbrev ws_Wk_init : List Cond := .code y_Wk_init b_Wk_init 1 none :: GL
abbrev b_Pi_init : ByteArray := prog_9_method_1_code
def y_Pi_init : MethodName := ⟨R_Pi, "<init>", "()V"⟩
abbrev ws_Pi_init : List Cond := .code y_Pi_init b_Pi_init 1 none :: GL
abbrev b_Lb_init : ByteArray := prog_4_method_1_code
def y_Lb_init : MethodName := ⟨R_Lb, "<init>", "()V"⟩
abbrev ws_Lb_init : List Cond := .code y_Lb_init b_Lb_init 1 none :: GL
abbrev b_Ly_init : ByteArray := prog_5_method_1_code
def y_Ly_init : MethodName := ⟨R_Ly, "<init>", "()V"⟩
abbrev ws_Ly_init : List Cond := .code y_Ly_init b_Ly_init 1 none :: GL
abbrev b_Da_init : ByteArray := prog_2_method_1_code
def y_Da_init : MethodName := ⟨R_Da, "<init>", "()V"⟩
abbrev ws_Da_init : List Cond := .code y_Da_init b_Da_init 1 none :: GL
abbrev b_Ne_init : ByteArray := prog_7_method_1_code
def y_Ne_init : MethodName := ⟨R_Ne, "<init>", "()V"⟩
abbrev ws_Ne_init : List Cond := .code y_Ne_init b_Ne_init 1 none :: GL
abbrev b_Nd_init : ByteArray := prog_6_method_1_code
def y_Nd_init : MethodName := ⟨R_Nd, "<init>", "()V"⟩
abbrev ws_Nd_init : List Cond := .code y_Nd_init b_Nd_init 1 none :: GL
abbrev b_En_init : ByteArray := prog_3_method_1_code
def y_En_init : MethodName := ⟨R_En, "<init>", "()V"⟩
abbrev ws_En_init : List Cond := .code y_En_init b_En_init 1 none :: GL
abbrev b_St_restart : ByteArray := prog_10_method_2_code
def y_St_restart : MethodName := ⟨R_St, "restart", "(Z)V"⟩
abbrev ws_St_restart : List Cond := .code y_St_restart b_St_restart 3 none :: GL
abbrev b_St_append : ByteArray := prog_10_method_10_code
def y_St_append : MethodName := ⟨R_St, "append", "(I)V"⟩
abbrev ws_St_append : List Cond := .code y_St_append b_St_append 2 none :: GL
abbrev b_St_appendShort : ByteArray := prog_10_method_12_code
def y_St_appendShort : MethodName := ⟨R_St, "appendShort", "(I)V"⟩
abbrev ws_St_appendShort : List Cond := .code y_St_appendShort b_St_appendShort 3 none :: GL
abbrev b_St_appendLong : ByteArray := prog_10_method_13_code
def y_St_appendLong : MethodName := ⟨R_St, "appendLong", "(I)V"⟩
abbrev ws_St_appendLong : List Cond := .code y_St_appendLong b_St_appendLong 3 none :: GL
abbrev b_St_byteOfLong : ByteArray := prog_10_method_14_code
def y_St_byteOfLong : MethodName := ⟨R_St, "byteOfLong", "(II)I"⟩
abbrev ws_St_byteOfLong : List Cond := .code y_St_byteOfLong b_St_byteOfLong 4 (some .int) :: GL
abbrev b_Pi_become : ByteArray := prog_9_method_2_code
def y_Pi_become : MethodName := ⟨R_Pi, "become", "(III)V"⟩
abbrev ws_Pi_become : List Cond := .code y_Pi_become b_Pi_become 4 none :: GL
abbrev b_J_fill : ByteArray := prog_15_method_103_code
def y_J_fill : MethodName := ⟨R_J, "fill", "([II)V"⟩
abbrev ws_J_fill : List Cond := .code y_J_fill b_J_fill 4 none :: GL
abbrev b_X_clear : ByteArray := prog_1_method_2_code
def y_X_clear : MethodName := ⟨R_X, "clear", "(Z)V"⟩
abbrev ws_X_clear : List Cond := .code y_X_clear b_X_clear 2 none :: GL
abbrev b_X_length : ByteArray := prog_1_method_3_code
def y_X_length : MethodName := ⟨R_X, "length", "()I"⟩
abbrev ws_X_length : List Cond := .code y_X_length b_X_length 1 (some .int) :: GL
abbrev b_X_byteAt : ByteArray := prog_1_method_4_code
def y_X_byteAt : MethodName := ⟨R_X, "byteAt", "(I)I"⟩
abbrev ws_X_byteAt : List Cond := .code y_X_byteAt b_X_byteAt 2 (some .int) :: GL
abbrev b_St_holds : ByteArray := prog_10_method_3_code
def y_St_holds : MethodName := ⟨R_St, "holds", "(JJ)Z"⟩
abbrev ws_St_holds : List Cond := .code y_St_holds b_St_holds 5 (some .boolean) :: GL
abbrev b_X_poke : ByteArray := prog_1_method_5_code
def y_X_poke : MethodName := ⟨R_X, "poke", "(II)Z"⟩
abbrev ws_X_poke : List Cond := .code y_X_poke b_X_poke 3 (some .boolean) :: GL
abbrev b_X_begin : ByteArray := prog_1_method_6_code
def y_X_begin : MethodName := ⟨R_X, "begin", "(III)Z"⟩
abbrev ws_X_begin : List Cond := .code y_X_begin b_X_begin 4 (some .boolean) :: GL
abbrev b_X_isSide : ByteArray := prog_1_method_19_code
def y_X_isSide : MethodName := ⟨R_X, "isSide", "(J)Z"⟩
abbrev ws_X_isSide : List Cond := .code y_X_isSide b_X_isSide 2 (some .boolean) :: GL
abbrev b_X_isDepth : ByteArray := prog_1_method_20_code
def y_X_isDepth : MethodName := ⟨R_X, "isDepth", "(J)Z"⟩
abbrev ws_X_isDepth : List Cond := .code y_X_isDepth b_X_isDepth 2 (some .boolean) :: GL
abbrev b_X_shape : ByteArray := prog_1_method_7_code
def y_X_shape : MethodName := ⟨R_X, "shape", "()I"⟩
abbrev ws_X_shape : List Cond := .code y_X_shape b_X_shape 1 (some .int) :: GL
abbrev b_X_fill : ByteArray := prog_1_method_8_code
def y_X_fill : MethodName := ⟨R_X, "fill", "(IIIII)Z"⟩
abbrev ws_X_fill : List Cond := .code y_X_fill b_X_fill 8 (some .boolean) :: GL
abbrev b_Pi_has : ByteArray := prog_9_method_4_code
def y_Pi_has : MethodName := ⟨R_Pi, "has", "(II)Z"⟩
abbrev ws_Pi_has : List Cond := .code y_Pi_has b_Pi_has 3 (some .boolean) :: GL
abbrev b_Pi_greatest : ByteArray := prog_9_method_3_code
def y_Pi_greatest : MethodName := ⟨R_Pi, "greatest", "()I"⟩
abbrev ws_Pi_greatest : List Cond := .code y_Pi_greatest b_Pi_greatest 1 (some .int) :: GL
abbrev b_Pi_put : ByteArray := prog_9_method_6_code
def y_Pi_put : MethodName := ⟨R_Pi, "put", "(III)V"⟩
abbrev ws_Pi_put : List Cond := .code y_Pi_put b_Pi_put 4 none :: GL
abbrev b_X_wash : ByteArray := prog_1_method_9_code
def y_X_wash : MethodName := ⟨R_X, "wash", "(III)V"⟩
abbrev ws_X_wash : List Cond := .code y_X_wash b_X_wash 6 none :: GL
abbrev b_Pi_get : ByteArray := prog_9_method_5_code
def y_Pi_get : MethodName := ⟨R_Pi, "get", "(II)I"⟩
abbrev ws_Pi_get : List Cond := .code y_Pi_get b_Pi_get 3 (some .int) :: GL
abbrev b_X_sample : ByteArray := prog_1_method_10_code
def y_X_sample : MethodName := ⟨R_X, "sample", "(II)I"⟩
abbrev ws_X_sample : List Cond := .code y_X_sample b_X_sample 3 (some .int) :: GL
abbrev b_X_label : ByteArray := prog_1_method_11_code
def y_X_label : MethodName := ⟨R_X, "label", "(II)Z"⟩
abbrev ws_X_label : List Cond := .code y_X_label b_X_label 3 (some .boolean) :: GL
abbrev b_Lb_add : ByteArray := prog_4_method_2_code
def y_Lb_add : MethodName := ⟨R_Lb, "add", "(II)Z"⟩
abbrev ws_Lb_add : List Cond := .code y_Lb_add b_Lb_add 4 (some .boolean) :: GL
abbrev b_Lb_indexOf : ByteArray := prog_4_method_3_code
def y_Lb_indexOf : MethodName := ⟨R_Lb, "indexOf", "(I)I"⟩
abbrev ws_Lb_indexOf : List Cond := .code y_Lb_indexOf b_Lb_indexOf 3 (some .int) :: GL
abbrev b_X_unlabel : ByteArray := prog_1_method_12_code
def y_X_unlabel : MethodName := ⟨R_X, "unlabel", "()I"⟩
abbrev ws_X_unlabel : List Cond := .code y_X_unlabel b_X_unlabel 2 (some .int) :: GL
abbrev b_X_write : ByteArray := prog_1_method_13_code
def y_X_write : MethodName := ⟨R_X, "write", "(III)I"⟩
abbrev ws_X_write : List Cond := .code y_X_write b_X_write 5 (some .int) :: GL
abbrev b_X_isCompression : ByteArray := prog_1_method_21_code
def y_X_isCompression : MethodName := ⟨R_X, "isCompression", "(J)Z"⟩
abbrev ws_X_isCompression : List Cond := .code y_X_isCompression b_X_isCompression 2 (some .boolean) :: GL
abbrev b_X_isPredictor : ByteArray := prog_1_method_22_code
def y_X_isPredictor : MethodName := ⟨R_X, "isPredictor", "(J)Z"⟩
abbrev ws_X_isPredictor : List Cond := .code y_X_isPredictor b_X_isPredictor 2 (some .boolean) :: GL
abbrev b_Wk_follow : ByteArray := prog_11_method_2_code
def y_Wk_follow : MethodName := ⟨R_Wk, "follow", "(LTaggedRaster$Store;)V"⟩
abbrev ws_Wk_follow : List Cond := .code y_Wk_follow b_Wk_follow 5 none :: GL
abbrev b_St_hasHeader : ByteArray := prog_10_method_4_code
def y_St_hasHeader : MethodName := ⟨R_St, "hasHeader", "()Z"⟩
abbrev ws_St_hasHeader : List Cond := .code y_St_hasHeader b_St_hasHeader 2 (some .boolean) :: GL
abbrev b_St_shortAt : ByteArray := prog_10_method_5_code
def y_St_shortAt : MethodName := ⟨R_St, "shortAt", "(I)I"⟩
abbrev ws_St_shortAt : List Cond := .code y_St_shortAt b_St_shortAt 2 (some .int) :: GL
abbrev b_St_longAt : ByteArray := prog_10_method_6_code
def y_St_longAt : MethodName := ⟨R_St, "longAt", "(I)J"⟩
abbrev ws_St_longAt : List Cond := .code y_St_longAt b_St_longAt 4 (some .long) :: GL
abbrev b_Wk_stands : ByteArray := prog_11_method_4_code
def y_Wk_stands : MethodName := ⟨R_Wk, "stands", "(LTaggedRaster$Store;J)Z"⟩
abbrev ws_Wk_stands : List Cond := .code y_Wk_stands b_Wk_stands 4 (some .boolean) :: GL
abbrev b_Wk_wasMet : ByteArray := prog_11_method_5_code
def y_Wk_wasMet : MethodName := ⟨R_Wk, "wasMet", "(J)Z"⟩
abbrev ws_Wk_wasMet : List Cond := .code y_Wk_wasMet b_Wk_wasMet 4 (some .boolean) :: GL
abbrev b_Ly_become : ByteArray := prog_5_method_2_code
def y_Ly_become : MethodName := ⟨R_Ly, "become", "(III)V"⟩
abbrev ws_Ly_become : List Cond := .code y_Ly_become b_Ly_become 4 none :: GL
abbrev b_Ly_choose : ByteArray := prog_5_method_3_code
def y_Ly_choose : MethodName := ⟨R_Ly, "choose", "(III)V"⟩
abbrev ws_Ly_choose : List Cond := .code y_Ly_choose b_Ly_choose 4 none :: GL
abbrev b_St_startAppending : ByteArray := prog_10_method_8_code
def y_St_startAppending : MethodName := ⟨R_St, "startAppending", "()V"⟩
abbrev ws_St_startAppending : List Cond := .code y_St_startAppending b_St_startAppending 1 none :: GL
abbrev b_X_appendPage : ByteArray := prog_1_method_24_code
def y_X_appendPage : MethodName := ⟨R_X, "appendPage", "()I"⟩
abbrev ws_X_appendPage : List Cond := .code y_X_appendPage b_X_appendPage 3 (some .int) :: GL
abbrev b_Da_pack : ByteArray := prog_2_method_2_code
def y_Da_pack : MethodName := ⟨R_Da, "pack", "(LTaggedRaster$Picture;LTaggedRaster$Layout;)V"⟩
abbrev ws_Da_pack : List Cond := .code y_Da_pack b_Da_pack 8 none :: GL
abbrev b_Ly_bytesARow : ByteArray := prog_5_method_4_code
def y_Ly_bytesARow : MethodName := ⟨R_Ly, "bytesARow", "()I"⟩
abbrev ws_Ly_bytesARow : List Cond := .code y_Ly_bytesARow b_Ly_bytesARow 1 (some .int) :: GL
abbrev b_X_appendStrips : ByteArray := prog_1_method_25_code
def y_X_appendStrips : MethodName := ⟨R_X, "appendStrips", "()V"⟩
abbrev ws_X_appendStrips : List Cond := .code y_X_appendStrips b_X_appendStrips 4 none :: GL
abbrev b_Ly_strips : ByteArray := prog_5_method_5_code
def y_Ly_strips : MethodName := ⟨R_Ly, "strips", "()I"⟩
abbrev ws_Ly_strips : List Cond := .code y_Ly_strips b_Ly_strips 1 (some .int) :: GL
abbrev b_Ly_firstByte : ByteArray := prog_5_method_7_code
def y_Ly_firstByte : MethodName := ⟨R_Ly, "firstByte", "(I)I"⟩
abbrev ws_Ly_firstByte : List Cond := .code y_Ly_firstByte b_Ly_firstByte 2 (some .int) :: GL
abbrev b_Ly_firstRow : ByteArray := prog_5_method_6_code
def y_Ly_firstRow : MethodName := ⟨R_Ly, "firstRow", "(I)I"⟩
abbrev ws_Ly_firstRow : List Cond := .code y_Ly_firstRow b_Ly_firstRow 2 (some .int) :: GL
abbrev b_St_appendToEven : ByteArray := prog_10_method_11_code
def y_St_appendToEven : MethodName := ⟨R_St, "appendToEven", "()V"⟩
abbrev ws_St_appendToEven : List Cond := .code y_St_appendToEven b_St_appendToEven 1 none :: GL
abbrev b_Da_appendPlain : ByteArray := prog_2_method_4_code
def y_Da_appendPlain : MethodName := ⟨R_Da, "appendPlain", "(IILTaggedRaster$Store;)V"⟩
abbrev ws_Da_appendPlain : List Cond := .code y_Da_appendPlain b_Da_appendPlain 5 none :: GL
abbrev b_X_appendRowsAsPackets : ByteArray := prog_1_method_26_code
def y_X_appendRowsAsPackets : MethodName := ⟨R_X, "appendRowsAsPackets", "(II)V"⟩
abbrev ws_X_appendRowsAsPackets : List Cond := .code y_X_appendRowsAsPackets b_X_appendRowsAsPackets 5 none :: GL
abbrev b_Pk_encodeRow : ByteArray := prog_8_method_2_code
def y_Pk_encodeRow : MethodName := ⟨R_Pk, "encodeRow", "([IIILTaggedRaster$Store;)V"⟩
abbrev ws_Pk_encodeRow : List Cond := .code y_Pk_encodeRow b_Pk_encodeRow 8 none :: GL
abbrev b_Pk_threeEqualBegin : ByteArray := prog_8_method_3_code
def y_Pk_threeEqualBegin : MethodName := ⟨R_Pk, "threeEqualBegin", "([III)Z"⟩
abbrev ws_Pk_threeEqualBegin : List Cond := .code y_Pk_threeEqualBegin b_Pk_threeEqualBegin 3 (some .boolean) :: GL
abbrev b_Pk_equalBytes : ByteArray := prog_8_method_4_code
def y_Pk_equalBytes : MethodName := ⟨R_Pk, "equalBytes", "([III)I"⟩
abbrev ws_Pk_equalBytes : List Cond := .code y_Pk_equalBytes b_Pk_equalBytes 4 (some .int) :: GL
abbrev b_Pk_bytesUpToThreeEqual : ByteArray := prog_8_method_5_code
def y_Pk_bytesUpToThreeEqual : MethodName := ⟨R_Pk, "bytesUpToThreeEqual", "([III)I"⟩
abbrev ws_Pk_bytesUpToThreeEqual : List Cond := .code y_Pk_bytesUpToThreeEqual b_Pk_bytesUpToThreeEqual 4 (some .int) :: GL
abbrev b_Ne_encode : ByteArray := prog_7_method_2_code
def y_Ne_encode : MethodName := ⟨R_Ne, "encode", "(LTaggedRaster$Data;IILTaggedRaster$Store;)V"⟩
abbrev ws_Ne_encode : List Cond := .code y_Ne_encode b_Ne_encode 9 none :: GL
abbrev b_Ne_restartTable : ByteArray := prog_7_method_3_code
def y_Ne_restartTable : MethodName := ⟨R_Ne, "restartTable", "(LTaggedRaster$Store;)V"⟩
abbrev ws_Ne_restartTable : List Cond := .code y_Ne_restartTable b_Ne_restartTable 3 none :: GL
abbrev b_Ne_emit : ByteArray := prog_7_method_6_code
def y_Ne_emit : MethodName := ⟨R_Ne, "emit", "(ILTaggedRaster$Store;)V"⟩
abbrev ws_Ne_emit : List Cond := .code y_Ne_emit b_Ne_emit 4 none :: GL
abbrev b_X_codeWidth : ByteArray := prog_1_method_23_code
def y_X_codeWidth : MethodName := ⟨R_X, "codeWidth", "(I)I"⟩
abbrev ws_X_codeWidth : List Cond := .code y_X_codeWidth b_X_codeWidth 1 (some .int) :: GL
abbrev b_Da_nibble : ByteArray := prog_2_method_6_code
def y_Da_nibble : MethodName := ⟨R_Da, "nibble", "(I)I"⟩
abbrev ws_Da_nibble : List Cond := .code y_Da_nibble b_Da_nibble 3 (some .int) :: GL
abbrev b_Ne_child : ByteArray := prog_7_method_5_code
def y_Ne_child : MethodName := ⟨R_Ne, "child", "(II)I"⟩
abbrev ws_Ne_child : List Cond := .code y_Ne_child b_Ne_child 5 (some .int) :: GL
abbrev b_Ne_addRow : ByteArray := prog_7_method_4_code
def y_Ne_addRow : MethodName := ⟨R_Ne, "addRow", "(II)V"⟩
abbrev ws_Ne_addRow : List Cond := .code y_Ne_addRow b_Ne_addRow 4 none :: GL
abbrev b_X_appendStripNumbers : ByteArray := prog_1_method_27_code
def y_X_appendStripNumbers : MethodName := ⟨R_X, "appendStripNumbers", "([I)I"⟩
abbrev ws_X_appendStripNumbers : List Cond := .code y_X_appendStripNumbers b_X_appendStripNumbers 5 (some .int) :: GL
abbrev b_X_appendLongTexts : ByteArray := prog_1_method_28_code
def y_X_appendLongTexts : MethodName := ⟨R_X, "appendLongTexts", "()V"⟩
abbrev ws_X_appendLongTexts : List Cond := .code y_X_appendLongTexts b_X_appendLongTexts 3 none :: GL
abbrev b_Lb_inOrder : ByteArray := prog_4_method_4_code
def y_Lb_inOrder : MethodName := ⟨R_Lb, "inOrder", "(I)I"⟩
abbrev ws_Lb_inOrder : List Cond := .code y_Lb_inOrder b_Lb_inOrder 3 (some .int) :: GL
abbrev b_Lb_bytesOf : ByteArray := prog_4_method_5_code
def y_Lb_bytesOf : MethodName := ⟨R_Lb, "bytesOf", "(I)I"⟩
abbrev ws_Lb_bytesOf : List Cond := .code y_Lb_bytesOf b_Lb_bytesOf 2 (some .int) :: GL
abbrev b_Lb_appendText : ByteArray := prog_4_method_6_code
def y_Lb_appendText : MethodName := ⟨R_Lb, "appendText", "(IILTaggedRaster$Store;)V"⟩
abbrev ws_Lb_appendText : List Cond := .code y_Lb_appendText b_Lb_appendText 6 none :: GL
abbrev b_X_appendDirectory : ByteArray := prog_1_method_29_code
def y_X_appendDirectory : MethodName := ⟨R_X, "appendDirectory", "(II)I"⟩
abbrev ws_X_appendDirectory : List Cond := .code y_X_appendDirectory b_X_appendDirectory 5 (some .int) :: GL
abbrev b_X_appendShortEntry : ByteArray := prog_1_method_30_code
def y_X_appendShortEntry : MethodName := ⟨R_X, "appendShortEntry", "(II)V"⟩
abbrev ws_X_appendShortEntry : List Cond := .code y_X_appendShortEntry b_X_appendShortEntry 3 none :: GL
abbrev b_X_appendStripsEntry : ByteArray := prog_1_method_31_code
def y_X_appendStripsEntry : MethodName := ⟨R_X, "appendStripsEntry", "(II)V"⟩
abbrev ws_X_appendStripsEntry : List Cond := .code y_X_appendStripsEntry b_X_appendStripsEntry 3 none :: GL
abbrev b_X_appendTextEntry : ByteArray := prog_1_method_32_code
def y_X_appendTextEntry : MethodName := ⟨R_X, "appendTextEntry", "(I)V"⟩
abbrev ws_X_appendTextEntry : List Cond := .code y_X_appendTextEntry b_X_appendTextEntry 3 none :: GL
abbrev b_St_putLong : ByteArray := prog_10_method_7_code
def y_St_putLong : MethodName := ⟨R_St, "putLong", "(II)V"⟩
abbrev ws_St_putLong : List Cond := .code y_St_putLong b_St_putLong 4 none :: GL
abbrev b_St_keepAppended : ByteArray := prog_10_method_9_code
def y_St_keepAppended : MethodName := ⟨R_St, "keepAppended", "()I"⟩
abbrev ws_St_keepAppended : List Cond := .code y_St_keepAppended b_St_keepAppended 2 (some .int) :: GL
abbrev b_X_pages : ByteArray := prog_1_method_14_code
def y_X_pages : MethodName := ⟨R_X, "pages", "()I"⟩
abbrev ws_X_pages : List Cond := .code y_X_pages b_X_pages 1 (some .int) :: GL
abbrev b_X_sound : ByteArray := prog_1_method_15_code
def y_X_sound : MethodName := ⟨R_X, "sound", "()Z"⟩
abbrev ws_X_sound : List Cond := .code y_X_sound b_X_sound 1 (some .boolean) :: GL
abbrev b_X_load : ByteArray := prog_1_method_16_code
def y_X_load : MethodName := ⟨R_X, "load", "(I)I"⟩
abbrev ws_X_load : List Cond := .code y_X_load b_X_load 3 (some .int) :: GL
abbrev b_Wk_hasPage : ByteArray := prog_11_method_3_code
def y_Wk_hasPage : MethodName := ⟨R_Wk, "hasPage", "(I)Z"⟩
abbrev ws_Wk_hasPage : List Cond := .code y_Wk_hasPage b_Wk_hasPage 2 (some .boolean) :: GL
abbrev b_X_readLayout : ByteArray := prog_1_method_34_code
def y_X_readLayout : MethodName := ⟨R_X, "readLayout", "(I)Z"⟩
abbrev ws_X_readLayout : List Cond := .code y_X_readLayout b_X_readLayout 14 (some .boolean) :: GL
abbrev b_X_tagsGoUp : ByteArray := prog_1_method_35_code
def y_X_tagsGoUp : MethodName := ⟨R_X, "tagsGoUp", "(I)Z"⟩
abbrev ws_X_tagsGoUp : List Cond := .code y_X_tagsGoUp b_X_tagsGoUp 6 (some .boolean) :: GL
abbrev b_X_onlyNumber : ByteArray := prog_1_method_36_code
def y_X_onlyNumber : MethodName := ⟨R_X, "onlyNumber", "(II)J"⟩
abbrev ws_X_onlyNumber : List Cond := .code y_X_onlyNumber b_X_onlyNumber 3 (some .long) :: GL
abbrev b_En_find : ByteArray := prog_3_method_2_code
def y_En_find : MethodName := ⟨R_En, "find", "(LTaggedRaster$Store;II)Z"⟩
abbrev ws_En_find : List Cond := .code y_En_find b_En_find 7 (some .boolean) :: GL
abbrev b_En_read : ByteArray := prog_3_method_3_code
def y_En_read : MethodName := ⟨R_En, "read", "(LTaggedRaster$Store;I)V"⟩
abbrev ws_En_read : List Cond := .code y_En_read b_En_read 5 none :: GL
abbrev b_En_valueBytes : ByteArray := prog_3_method_4_code
def y_En_valueBytes : MethodName := ⟨R_En, "valueBytes", "()I"⟩
abbrev ws_En_valueBytes : List Cond := .code y_En_valueBytes b_En_valueBytes 1 (some .int) :: GL
abbrev b_En_isNumbers : ByteArray := prog_3_method_5_code
def y_En_isNumbers : MethodName := ⟨R_En, "isNumbers", "(I)Z"⟩
abbrev ws_En_isNumbers : List Cond := .code y_En_isNumbers b_En_isNumbers 2 (some .boolean) :: GL
abbrev b_En_value : ByteArray := prog_3_method_6_code
def y_En_value : MethodName := ⟨R_En, "value", "(LTaggedRaster$Store;I)J"⟩
abbrev ws_En_value : List Cond := .code y_En_value b_En_value 4 (some .long) :: GL
abbrev b_X_findStripNumbers : ByteArray := prog_1_method_37_code
def y_X_findStripNumbers : MethodName := ⟨R_X, "findStripNumbers", "(LTaggedRaster$Entry;II)Z"⟩
abbrev ws_X_findStripNumbers : List Cond := .code y_X_findStripNumbers b_X_findStripNumbers 4 (some .boolean) :: GL
abbrev b_X_decodeStrip : ByteArray := prog_1_method_38_code
def y_X_decodeStrip : MethodName := ⟨R_X, "decodeStrip", "(I)Z"⟩
abbrev ws_X_decodeStrip : List Cond := .code y_X_decodeStrip b_X_decodeStrip 10 (some .boolean) :: GL
abbrev b_Da_takePlain : ByteArray := prog_2_method_5_code
def y_Da_takePlain : MethodName := ⟨R_Da, "takePlain", "(LTaggedRaster$Store;IIII)Z"⟩
abbrev ws_Da_takePlain : List Cond := .code y_Da_takePlain b_Da_takePlain 7 (some .boolean) :: GL
abbrev b_Pk_decode : ByteArray := prog_8_method_6_code
def y_Pk_decode : MethodName := ⟨R_Pk, "decode", "(LTaggedRaster$Store;II[III)Z"⟩
abbrev ws_Pk_decode : List Cond := .code y_Pk_decode b_Pk_decode 13 (some .boolean) :: GL
abbrev b_Nd_decode : ByteArray := prog_6_method_2_code
def y_Nd_decode : MethodName := ⟨R_Nd, "decode", "(LTaggedRaster$Store;IILTaggedRaster$Data;II)Z"⟩
abbrev ws_Nd_decode : List Cond := .code y_Nd_decode b_Nd_decode 13 (some .boolean) :: GL
abbrev b_Nd_readBits : ByteArray := prog_6_method_3_code
def y_Nd_readBits : MethodName := ⟨R_Nd, "readBits", "(LTaggedRaster$Store;II)I"⟩
abbrev ws_Nd_readBits : List Cond := .code y_Nd_readBits b_Nd_readBits 5 (some .int) :: GL
abbrev b_Nd_rowSize : ByteArray := prog_6_method_4_code
def y_Nd_rowSize : MethodName := ⟨R_Nd, "rowSize", "(I)I"⟩
abbrev ws_Nd_rowSize : List Cond := .code y_Nd_rowSize b_Nd_rowSize 4 (some .int) :: GL
abbrev b_Nd_copyRow : ByteArray := prog_6_method_5_code
def y_Nd_copyRow : MethodName := ⟨R_Nd, "copyRow", "(LTaggedRaster$Data;III)V"⟩
abbrev ws_Nd_copyRow : List Cond := .code y_Nd_copyRow b_Nd_copyRow 7 none :: GL
abbrev b_Da_putNibble : ByteArray := prog_2_method_7_code
def y_Da_putNibble : MethodName := ⟨R_Da, "putNibble", "(II)V"⟩
abbrev ws_Da_putNibble : List Cond := .code y_Da_putNibble b_Da_putNibble 4 none :: GL
abbrev b_Nd_noteCode : ByteArray := prog_6_method_6_code
def y_Nd_noteCode : MethodName := ⟨R_Nd, "noteCode", "(II)V"⟩
abbrev ws_Nd_noteCode : List Cond := .code y_Nd_noteCode b_Nd_noteCode 3 none :: GL
abbrev b_Da_unpack : ByteArray := prog_2_method_3_code
def y_Da_unpack : MethodName := ⟨R_Da, "unpack", "(LTaggedRaster$Layout;LTaggedRaster$Picture;)V"⟩
abbrev ws_Da_unpack : List Cond := .code y_Da_unpack b_Da_unpack 8 none :: GL
abbrev b_X_field : ByteArray := prog_1_method_17_code
def y_X_field : MethodName := ⟨R_X, "field", "(III)J"⟩
abbrev ws_X_field : List Cond := .code y_X_field b_X_field 4 (some .long) :: GL
abbrev b_X_findSoundEntry : ByteArray := prog_1_method_33_code
def y_X_findSoundEntry : MethodName := ⟨R_X, "findSoundEntry", "(II)Z"⟩
abbrev ws_X_findSoundEntry : List Cond := .code y_X_findSoundEntry b_X_findSoundEntry 3 (some .boolean) :: GL
abbrev b_X_fieldCount : ByteArray := prog_1_method_18_code
def y_X_fieldCount : MethodName := ⟨R_X, "fieldCount", "(II)J"⟩
abbrev ws_X_fieldCount : List Cond := .code y_X_fieldCount b_X_fieldCount 3 (some .long) :: GL
abbrev b_M_init : ByteArray := prog_13_method_1_code
def y_M_init : MethodName := ⟨R_M, "<init>", "()V"⟩
abbrev ws_M_init : List Cond := .code y_M_init b_M_init 1 none :: GL
abbrev b_M_clear : ByteArray := prog_13_method_2_code
def y_M_clear : MethodName := ⟨R_M, "clear", "(Z)V"⟩
abbrev ws_M_clear : List Cond := .code y_M_clear b_M_clear 3 none :: GL
abbrev b_M_length : ByteArray := prog_13_method_3_code
def y_M_length : MethodName := ⟨R_M, "length", "()I"⟩
abbrev ws_M_length : List Cond := .code y_M_length b_M_length 1 (some .int) :: GL
abbrev b_M_byteAt : ByteArray := prog_13_method_4_code
def y_M_byteAt : MethodName := ⟨R_M, "byteAt", "(I)I"⟩
abbrev ws_M_byteAt : List Cond := .code y_M_byteAt b_M_byteAt 2 (some .int) :: GL
abbrev b_M_poke : ByteArray := prog_13_method_5_code
def y_M_poke : MethodName := ⟨R_M, "poke", "(II)Z"⟩
abbrev ws_M_poke : List Cond := .code y_M_poke b_M_poke 3 (some .boolean) :: GL
abbrev b_M_begin : ByteArray := prog_13_method_6_code
def y_M_begin : MethodName := ⟨R_M, "begin", "(III)Z"⟩
abbrev ws_M_begin : List Cond := .code y_M_begin b_M_begin 5 (some .boolean) :: GL
abbrev b_M_shape : ByteArray := prog_13_method_7_code
def y_M_shape : MethodName := ⟨R_M, "shape", "()I"⟩
abbrev ws_M_shape : List Cond := .code y_M_shape b_M_shape 1 (some .int) :: GL
abbrev b_M_fill : ByteArray := prog_13_method_8_code
def y_M_fill : MethodName := ⟨R_M, "fill", "(IIIII)Z"⟩
abbrev ws_M_fill : List Cond := .code y_M_fill b_M_fill 8 (some .boolean) :: GL
abbrev b_M_wash : ByteArray := prog_13_method_9_code
def y_M_wash : MethodName := ⟨R_M, "wash", "(III)V"⟩
abbrev ws_M_wash : List Cond := .code y_M_wash b_M_wash 10 none :: GL
abbrev b_M_sample : ByteArray := prog_13_method_10_code
def y_M_sample : MethodName := ⟨R_M, "sample", "(II)I"⟩
abbrev ws_M_sample : List Cond := .code y_M_sample b_M_sample 3 (some .int) :: GL
abbrev b_M_label : ByteArray := prog_13_method_11_code
def y_M_label : MethodName := ⟨R_M, "label", "(II)Z"⟩
abbrev ws_M_label : List Cond := .code y_M_label b_M_label 4 (some .boolean) :: GL
abbrev b_M_unlabel : ByteArray := prog_13_method_12_code
def y_M_unlabel : MethodName := ⟨R_M, "unlabel", "()I"⟩
abbrev ws_M_unlabel : List Cond := .code y_M_unlabel b_M_unlabel 2 (some .int) :: GL
abbrev b_M_pages : ByteArray := prog_13_method_17_code
def y_M_pages : MethodName := ⟨R_M, "pages", "()I"⟩
abbrev ws_M_pages : List Cond := .code y_M_pages b_M_pages 1 (some .int) :: GL
abbrev b_M_walk : ByteArray := prog_13_method_16_code
def y_M_walk : MethodName := ⟨R_M, "walk", "()V"⟩
abbrev ws_M_walk : List Cond := .code y_M_walk b_M_walk 6 none :: GL
abbrev b_M_read : ByteArray := prog_13_method_13_code
def y_M_read : MethodName := ⟨R_M, "read", "(II)J"⟩
abbrev ws_M_read : List Cond := .code y_M_read b_M_read 6 (some .long) :: GL
abbrev b_M_stands : ByteArray := prog_13_method_15_code
def y_M_stands : MethodName := ⟨R_M, "stands", "(J)Z"⟩
abbrev ws_M_stands : List Cond := .code y_M_stands b_M_stands 5 (some .boolean) :: GL
abbrev b_M_sound : ByteArray := prog_13_method_18_code
def y_M_sound : MethodName := ⟨R_M, "sound", "()Z"⟩
abbrev ws_M_sound : List Cond := .code y_M_sound b_M_sound 1 (some .boolean) :: GL
abbrev b_M_field : ByteArray := prog_13_method_22_code
def y_M_field : MethodName := ⟨R_M, "field", "(III)J"⟩
abbrev ws_M_field : List Cond := .code y_M_field b_M_field 6 (some .long) :: GL
abbrev b_M_entry : ByteArray := prog_13_method_19_code
def y_M_entry : MethodName := ⟨R_M, "entry", "(II)I"⟩
abbrev ws_M_entry : List Cond := .code y_M_entry b_M_entry 6 (some .int) :: GL
abbrev b_M_values : ByteArray := prog_13_method_21_code
def y_M_values : MethodName := ⟨R_M, "values", "(I)J"⟩
abbrev ws_M_values : List Cond := .code y_M_values b_M_values 6 (some .long) :: GL
abbrev b_M_unit : ByteArray := prog_13_method_20_code
def y_M_unit : MethodName := ⟨R_M, "unit", "(I)I"⟩
abbrev ws_M_unit : List Cond := .code y_M_unit b_M_unit 3 (some .int) :: GL
abbrev b_M_fieldCount : ByteArray := prog_13_method_23_code
def y_M_fieldCount : MethodName := ⟨R_M, "fieldCount", "(II)J"⟩
abbrev ws_M_fieldCount : List Cond := .code y_M_fieldCount b_M_fieldCount 4 (some .long) :: GL
abbrev b_M_write : ByteArray := prog_13_method_41_code
def y_M_write : MethodName := ⟨R_M, "write", "(III)I"⟩
abbrev ws_M_write : List Cond := .code y_M_write b_M_write 12 (some .int) :: GL
abbrev b_M_lay : ByteArray := prog_13_method_40_code
def y_M_lay : MethodName := ⟨R_M, "lay", "(IIII)V"⟩
abbrev ws_M_lay : List Cond := .code y_M_lay b_M_lay 7 none :: GL
abbrev b_M_even : ByteArray := prog_13_method_26_code
def y_M_even : MethodName := ⟨R_M, "even", "()V"⟩
abbrev ws_M_even : List Cond := .code y_M_even b_M_even 1 none :: GL
abbrev b_M_put : ByteArray := prog_13_method_24_code
def y_M_put : MethodName := ⟨R_M, "put", "(I)V"⟩
abbrev ws_M_put : List Cond := .code y_M_put b_M_put 2 none :: GL
abbrev b_M_gather : ByteArray := prog_13_method_28_code
def y_M_gather : MethodName := ⟨R_M, "gather", "(III)V"⟩
abbrev ws_M_gather : List Cond := .code y_M_gather b_M_gather 9 none :: GL
abbrev b_M_rowBytes : ByteArray := prog_13_method_27_code
def y_M_rowBytes : MethodName := ⟨R_M, "rowBytes", "(II)I"⟩
abbrev ws_M_rowBytes : List Cond := .code y_M_rowBytes b_M_rowBytes 2 (some .int) :: GL
abbrev b_M_pack : ByteArray := prog_13_method_35_code
def y_M_pack : MethodName := ⟨R_M, "pack", "(II)V"⟩
abbrev ws_M_pack : List Cond := .code y_M_pack b_M_pack 8 none :: GL
abbrev b_M_codes : ByteArray := prog_13_method_34_code
def y_M_codes : MethodName := ⟨R_M, "codes", "(I)V"⟩
abbrev ws_M_codes : List Cond := .code y_M_codes b_M_codes 8 none :: GL
abbrev b_M_emit : ByteArray := prog_13_method_32_code
def y_M_emit : MethodName := ⟨R_M, "emit", "(II)V"⟩
abbrev ws_M_emit : List Cond := .code y_M_emit b_M_emit 5 none :: GL
abbrev b_M_width : ByteArray := prog_13_method_31_code
def y_M_width : MethodName := ⟨R_M, "width", "(I)I"⟩
abbrev ws_M_width : List Cond := .code y_M_width b_M_width 1 (some .int) :: GL
abbrev b_M_same : ByteArray := prog_13_method_33_code
def y_M_same : MethodName := ⟨R_M, "same", "(III)Z"⟩
abbrev ws_M_same : List Cond := .code y_M_same b_M_same 5 (some .boolean) :: GL
abbrev b_M_packets : ByteArray := prog_13_method_30_code
def y_M_packets : MethodName := ⟨R_M, "packets", "(II)V"⟩
abbrev ws_M_packets : List Cond := .code y_M_packets b_M_packets 6 none :: GL
abbrev b_M_run : ByteArray := prog_13_method_29_code
def y_M_run : MethodName := ⟨R_M, "run", "(II)I"⟩
abbrev ws_M_run : List Cond := .code y_M_run b_M_run 4 (some .int) :: GL
abbrev b_M_number : ByteArray := prog_13_method_25_code
def y_M_number : MethodName := ⟨R_M, "number", "(IJ)V"⟩
abbrev ws_M_number : List Cond := .code y_M_number b_M_number 4 none :: GL
abbrev b_M_store : ByteArray := prog_13_method_14_code
def y_M_store : MethodName := ⟨R_M, "store", "(IIJ)V"⟩
abbrev ws_M_store : List Cond := .code y_M_store b_M_store 8 none :: GL
abbrev b_M_text : ByteArray := prog_13_method_38_code
def y_M_text : MethodName := ⟨R_M, "text", "(I)V"⟩
abbrev ws_M_text : List Cond := .code y_M_text b_M_text 3 none :: GL
abbrev b_M_directory : ByteArray := prog_13_method_39_code
def y_M_directory : MethodName := ⟨R_M, "directory", "(IIIIIII)V"⟩
abbrev ws_M_directory : List Cond := .code y_M_directory b_M_directory 12 none :: GL
abbrev b_M_small : ByteArray := prog_13_method_37_code
def y_M_small : MethodName := ⟨R_M, "small", "(II)V"⟩
abbrev ws_M_small : List Cond := .code y_M_small b_M_small 3 none :: GL
abbrev b_M_head : ByteArray := prog_13_method_36_code
def y_M_head : MethodName := ⟨R_M, "head", "(III)V"⟩
abbrev ws_M_head : List Cond := .code y_M_head b_M_head 4 none :: GL
abbrev b_M_load : ByteArray := prog_13_method_52_code
def y_M_load : MethodName := ⟨R_M, "load", "(I)I"⟩
abbrev ws_M_load : List Cond := .code y_M_load b_M_load 3 (some .int) :: GL
abbrev b_M_fields : ByteArray := prog_13_method_46_code
def y_M_fields : MethodName := ⟨R_M, "fields", "(I)Z"⟩
abbrev ws_M_fields : List Cond := .code y_M_fields b_M_fields 15 (some .boolean) :: GL
abbrev b_M_one : ByteArray := prog_13_method_43_code
def y_M_one : MethodName := ⟨R_M, "one", "(II)J"⟩
abbrev ws_M_one : List Cond := .code y_M_one b_M_one 3 (some .long) :: GL
abbrev b_M_good : ByteArray := prog_13_method_42_code
def y_M_good : MethodName := ⟨R_M, "good", "(IIJ)I"⟩
abbrev ws_M_good : List Cond := .code y_M_good b_M_good 6 (some .int) :: GL
abbrev b_M_rising : ByteArray := prog_13_method_44_code
def y_M_rising : MethodName := ⟨R_M, "rising", "(I)Z"⟩
abbrev ws_M_rising : List Cond := .code y_M_rising b_M_rising 4 (some .boolean) :: GL
abbrev b_M_strips : ByteArray := prog_13_method_45_code
def y_M_strips : MethodName := ⟨R_M, "strips", "()I"⟩
abbrev ws_M_strips : List Cond := .code y_M_strips b_M_strips 1 (some .int) :: GL
abbrev b_M_strip : ByteArray := prog_13_method_50_code
def y_M_strip : MethodName := ⟨R_M, "strip", "(II)Z"⟩
abbrev ws_M_strip : List Cond := .code y_M_strip b_M_strip 10 (some .boolean) :: GL
abbrev b_M_unpack : ByteArray := prog_13_method_47_code
def y_M_unpack : MethodName := ⟨R_M, "unpack", "(III)Z"⟩
abbrev ws_M_unpack : List Cond := .code y_M_unpack b_M_unpack 10 (some .boolean) :: GL
abbrev b_M_decode : ByteArray := prog_13_method_49_code
def y_M_decode : MethodName := ⟨R_M, "decode", "(III)Z"⟩
abbrev ws_M_decode : List Cond := .code y_M_decode b_M_decode 11 (some .boolean) :: GL
abbrev b_M_code : ByteArray := prog_13_method_48_code
def y_M_code : MethodName := ⟨R_M, "code", "(III)I"⟩
abbrev ws_M_code : List Cond := .code y_M_code b_M_code 6 (some .int) :: GL
abbrev b_M_take : ByteArray := prog_13_method_51_code
def y_M_take : MethodName := ⟨R_M, "take", "(II)V"⟩
abbrev ws_M_take : List Cond := .code y_M_take b_M_take 8 none :: GL
theorem gin_of {C : String} {T : u_T} {N : Nat} (h : ∀ k, k < N → u_lay C T k ∈ GL) : ∀ w ∈ u_ws C T N, w ∈ GL := fun w hw => by
  obtain ⟨k, hk, rfl⟩ := List.mem_map.mp hw
  exact h k (List.mem_range.mp hk)
end
section
theorem t_0 : (Cond.selects R_St y_St_byteOfLong y_St_byteOfLong) ∈ GL := tw (k := 0) (by decide +kernel) (by decide +kernel)
theorem t_1 : (Cond.selects R_Lb y_Lb_indexOf y_Lb_indexOf) ∈ GL := tw (k := 1) (by decide +kernel) (by decide +kernel)
theorem t_2 : (Cond.selects R_Wk y_Wk_wasMet y_Wk_wasMet) ∈ GL := tw (k := 2) (by decide +kernel) (by decide +kernel)
theorem t_3 : (Cond.selects R_X y_X_appendPage y_X_appendPage) ∈ GL := tw (k := 3) (by decide +kernel) (by decide +kernel)
theorem t_4 : (Cond.selects R_X y_X_appendStrips y_X_appendStrips) ∈ GL := tw (k := 4) (by decide +kernel) (by decide +kernel)
theorem t_5 : (Cond.selects R_X y_X_appendRowsAsPackets y_X_appendRowsAsPackets) ∈ GL := tw (k := 5) (by decide +kernel) (by decide +kernel)
theorem t_6 : (Cond.selects R_Ne y_Ne_restartTable y_Ne_restartTable) ∈ GL := tw (k := 6) (by decide +kernel) (by decide +kernel)
theorem t_7 : (Cond.selects R_Ne y_Ne_emit y_Ne_emit) ∈ GL := tw (k := 7) (by decide +kernel) (by decide +kernel)
theorem t_8 : (Cond.selects R_Ne y_Ne_child y_Ne_child) ∈ GL := tw (k := 8) (by decide +kernel) (by decide +kernel)
theorem t_9 : (Cond.selects R_Ne y_Ne_addRow y_Ne_addRow) ∈ GL := tw (k := 9) (by decide +kernel) (by decide +kernel)
theorem t_10 : (Cond.selects R_X y_X_appendStripNumbers y_X_appendStripNumbers) ∈ GL := tw (k := 10) (by decide +kernel) (by decide +kernel)
theorem t_11 : (Cond.selects R_X y_X_appendLongTexts y_X_appendLongTexts) ∈ GL := tw (k := 11) (by decide +kernel) (by decide +kernel)
theorem t_12 : (Cond.selects R_X y_X_appendDirectory y_X_appendDirectory) ∈ GL := tw (k := 12) (by decide +kernel) (by decide +kernel)
theorem t_13 : (Cond.selects R_X y_X_appendShortEntry y_X_appendShortEntry) ∈ GL := tw (k := 13) (by decide +kernel) (by decide +kernel)
theorem t_14 : (Cond.selects R_X y_X_appendStripsEntry y_X_appendStripsEntry) ∈ GL := tw (k := 14) (by decide +kernel) (by decide +kernel)
theorem t_15 : (Cond.selects R_X y_X_appendTextEntry y_X_appendTextEntry) ∈ GL := tw (k := 15) (by decide +kernel) (by decide +kernel)
theorem t_16 : (Cond.selects R_X y_X_readLayout y_X_readLayout) ∈ GL := tw (k := 16) (by decide +kernel) (by decide +kernel)
theorem t_17 : (Cond.selects R_X y_X_tagsGoUp y_X_tagsGoUp) ∈ GL := tw (k := 17) (by decide +kernel) (by decide +kernel)
theorem t_18 : (Cond.selects R_X y_X_onlyNumber y_X_onlyNumber) ∈ GL := tw (k := 18) (by decide +kernel) (by decide +kernel)
theorem t_19 : (Cond.selects R_En y_En_read y_En_read) ∈ GL := tw (k := 19) (by decide +kernel) (by decide +kernel)
theorem t_20 : (Cond.selects R_En y_En_valueBytes y_En_valueBytes) ∈ GL := tw (k := 20) (by decide +kernel) (by decide +kernel)
theorem t_21 : (Cond.selects R_X y_X_findStripNumbers y_X_findStripNumbers) ∈ GL := tw (k := 21) (by decide +kernel) (by decide +kernel)
theorem t_22 : (Cond.selects R_X y_X_decodeStrip y_X_decodeStrip) ∈ GL := tw (k := 22) (by decide +kernel) (by decide +kernel)
theorem t_23 : (Cond.selects R_Nd y_Nd_rowSize y_Nd_rowSize) ∈ GL := tw (k := 23) (by decide +kernel) (by decide +kernel)
theorem t_24 : (Cond.selects R_Nd y_Nd_copyRow y_Nd_copyRow) ∈ GL := tw (k := 24) (by decide +kernel) (by decide +kernel)
theorem t_25 : (Cond.selects R_Nd y_Nd_noteCode y_Nd_noteCode) ∈ GL := tw (k := 25) (by decide +kernel) (by decide +kernel)
theorem t_26 : (Cond.selects R_X y_X_findSoundEntry y_X_findSoundEntry) ∈ GL := tw (k := 26) (by decide +kernel) (by decide +kernel)
theorem t_27 : (Cond.selects R_M y_M_walk y_M_walk) ∈ GL := tw (k := 27) (by decide +kernel) (by decide +kernel)
theorem t_28 : (Cond.selects R_M y_M_read y_M_read) ∈ GL := tw (k := 28) (by decide +kernel) (by decide +kernel)
theorem t_29 : (Cond.selects R_M y_M_stands y_M_stands) ∈ GL := tw (k := 29) (by decide +kernel) (by decide +kernel)
theorem t_30 : (Cond.selects R_M y_M_entry y_M_entry) ∈ GL := tw (k := 30) (by decide +kernel) (by decide +kernel)
theorem t_31 : (Cond.selects R_M y_M_values y_M_values) ∈ GL := tw (k := 31) (by decide +kernel) (by decide +kernel)
theorem t_32 : (Cond.selects R_M y_M_unit y_M_unit) ∈ GL := tw (k := 32) (by decide +kernel) (by decide +kernel)
theorem t_33 : (Cond.selects R_M y_M_lay y_M_lay) ∈ GL := tw (k := 33) (by decide +kernel) (by decide +kernel)
theorem t_34 : (Cond.selects R_M y_M_even y_M_even) ∈ GL := tw (k := 34) (by decide +kernel) (by decide +kernel)
theorem t_35 : (Cond.selects R_M y_M_put y_M_put) ∈ GL := tw (k := 35) (by decide +kernel) (by decide +kernel)
theorem t_36 : (Cond.selects R_M y_M_gather y_M_gather) ∈ GL := tw (k := 36) (by decide +kernel) (by decide +kernel)
theorem t_37 : (Cond.selects R_M y_M_pack y_M_pack) ∈ GL := tw (k := 37) (by decide +kernel) (by decide +kernel)
theorem t_38 : (Cond.selects R_M y_M_codes y_M_codes) ∈ GL := tw (k := 38) (by decide +kernel) (by decide +kernel)
theorem t_39 : (Cond.selects R_M y_M_emit y_M_emit) ∈ GL := tw (k := 39) (by decide +kernel) (by decide +kernel)
theorem t_40 : (Cond.selects R_M y_M_same y_M_same) ∈ GL := tw (k := 40) (by decide +kernel) (by decide +kernel)
theorem t_41 : (Cond.selects R_M y_M_packets y_M_packets) ∈ GL := tw (k := 41) (by decide +kernel) (by decide +kernel)
theorem t_42 : (Cond.selects R_M y_M_run y_M_run) ∈ GL := tw (k := 42) (by decide +kernel) (by decide +kernel)
theorem t_43 : (Cond.selects R_M y_M_number y_M_number) ∈ GL := tw (k := 43) (by decide +kernel) (by decide +kernel)
theorem t_44 : (Cond.selects R_M y_M_store y_M_store) ∈ GL := tw (k := 44) (by decide +kernel) (by decide +kernel)
theorem t_45 : (Cond.selects R_M y_M_text y_M_text) ∈ GL := tw (k := 45) (by decide +kernel) (by decide +kernel)
theorem t_46 : (Cond.selects R_M y_M_directory y_M_directory) ∈ GL := tw (k := 46) (by decide +kernel) (by decide +kernel)
theorem t_47 : (Cond.selects R_M y_M_small y_M_small) ∈ GL := tw (k := 47) (by decide +kernel) (by decide +kernel)
theorem t_48 : (Cond.selects R_M y_M_head y_M_head) ∈ GL := tw (k := 48) (by decide +kernel) (by decide +kernel)
theorem t_49 : (Cond.selects R_M y_M_fields y_M_fields) ∈ GL := tw (k := 49) (by decide +kernel) (by decide +kernel)
theorem t_50 : (Cond.selects R_M y_M_one y_M_one) ∈ GL := tw (k := 50) (by decide +kernel) (by decide +kernel)
theorem t_51 : (Cond.selects R_M y_M_good y_M_good) ∈ GL := tw (k := 51) (by decide +kernel) (by decide +kernel)
theorem t_52 : (Cond.selects R_M y_M_rising y_M_rising) ∈ GL := tw (k := 52) (by decide +kernel) (by decide +kernel)
theorem t_53 : (Cond.selects R_M y_M_strips y_M_strips) ∈ GL := tw (k := 53) (by decide +kernel) (by decide +kernel)
theorem t_54 : (Cond.selects R_M y_M_strip y_M_strip) ∈ GL := tw (k := 54) (by decide +kernel) (by decide +kernel)
theorem t_55 : (Cond.selects R_M y_M_unpack y_M_unpack) ∈ GL := tw (k := 55) (by decide +kernel) (by decide +kernel)
theorem t_56 : (Cond.selects R_M y_M_decode y_M_decode) ∈ GL := tw (k := 56) (by decide +kernel) (by decide +kernel)
theorem t_57 : (Cond.selects R_M y_M_code y_M_code) ∈ GL := tw (k := 57) (by decide +kernel) (by decide +kernel)
theorem t_58 : (Cond.selects R_M y_M_take y_M_take) ∈ GL := tw (k := 58) (by decide +kernel) (by decide +kernel)
theorem t_60 : (Cond.initialized R_X) ∈ GL := tw (k := 60) (by decide +kernel) (by decide +kernel)
theorem t_61 : (Cond.initialized R_St) ∈ GL := tw (k := 61) (by decide +kernel) (by decide +kernel)
theorem t_62 : (Cond.initialized R_Wk) ∈ GL := tw (k := 62) (by decide +kernel) (by decide +kernel)
theorem t_63 : (Cond.initialized R_Pi) ∈ GL := tw (k := 63) (by decide +kernel) (by decide +kernel)
theorem t_64 : (Cond.initialized R_Lb) ∈ GL := tw (k := 64) (by decide +kernel) (by decide +kernel)
theorem t_65 : (Cond.initialized R_Ly) ∈ GL := tw (k := 65) (by decide +kernel) (by decide +kernel)
theorem t_66 : (Cond.initialized R_Da) ∈ GL := tw (k := 66) (by decide +kernel) (by decide +kernel)
theorem t_67 : (Cond.initialized R_Ne) ∈ GL := tw (k := 67) (by decide +kernel) (by decide +kernel)
theorem t_68 : (Cond.initialized R_Nd) ∈ GL := tw (k := 68) (by decide +kernel) (by decide +kernel)
theorem t_69 : (Cond.initialized R_En) ∈ GL := tw (k := 69) (by decide +kernel) (by decide +kernel)
theorem t_70 : (Cond.initialized R_J) ∈ GL := tw (k := 70) (by decide +kernel) (by decide +kernel)
theorem t_71 : (Cond.initialized R_M) ∈ GL := tw (k := 71) (by decide +kernel) (by decide +kernel)
theorem t_72 : (Cond.initialized "java/lang/Math") ∈ GL := tw (k := 72) (by decide +kernel) (by decide +kernel)
theorem t_73 : (Cond.initialized R_Pk) ∈ GL := tw (k := 73) (by decide +kernel) (by decide +kernel)
theorem t_74 : (Cond.classLink RL 7 R_X) ∈ GL := tw (k := 74) (by decide +kernel) (by decide +kernel)
theorem t_75 : (Cond.instantiable R_X 14) ∈ GL := tw (k := 75) (by decide +kernel) (by decide +kernel)
theorem t_76 : (Cond.methodLink RL 9 y_X_init) ∈ GL := tw (k := 76) (by decide +kernel) (by decide +kernel)
theorem t_77 : (Cond.instanceMethod y_X_init) ∈ GL := tw (k := 77) (by decide +kernel) (by decide +kernel)
theorem t_78 : (Cond.code y_X_init b_X_init 1 none) ∈ GL := tw (k := 78) (by decide +kernel) (by decide +kernel)
theorem t_79 : (Cond.methodLink R_X 1 objectInit) ∈ GL := tw (k := 79) (by decide +kernel) (by decide +kernel)
theorem t_80 : (Cond.instanceMethod objectInit) ∈ GL := tw (k := 80) (by decide +kernel) (by decide +kernel)
theorem t_81 : (Cond.code objectInit ⟨#[0xb1]⟩ 1 none) ∈ GL := tw (k := 81) (by decide +kernel) (by decide +kernel)
theorem t_82 : (Cond.classLink R_X 7 R_St) ∈ GL := tw (k := 82) (by decide +kernel) (by decide +kernel)
theorem t_83 : (Cond.instantiable R_St 3) ∈ GL := tw (k := 83) (by decide +kernel) (by decide +kernel)
theorem t_85 : (Cond.instanceMethod y_St_init) ∈ GL := tw (k := 85) (by decide +kernel) (by decide +kernel)
theorem t_86 : (Cond.code y_St_init b_St_init 1 none) ∈ GL := tw (k := 86) (by decide +kernel) (by decide +kernel)
theorem t_87 : (Cond.methodLink R_St 3 objectInit) ∈ GL := tw (k := 87) (by decide +kernel) (by decide +kernel)
theorem t_88 : (Cond.fieldLink R_St 9 R_St "bytes" "[I") ∈ GL := tw (k := 88) (by decide +kernel) (by decide +kernel)
theorem t_89 : (Cond.fieldLink R_Nd 41 R_St "bytes" "[I") ∈ GL := tw (k := 89) (by decide +kernel) (by decide +kernel)
theorem t_90 : (Cond.fieldLink R_X 104 R_St "bytes" "[I") ∈ GL := tw (k := 90) (by decide +kernel) (by decide +kernel)
theorem t_91 : (Cond.fieldLink R_Da 59 R_St "bytes" "[I") ∈ GL := tw (k := 91) (by decide +kernel) (by decide +kernel)
theorem t_92 : (Cond.fieldLink R_Pk 26 R_St "bytes" "[I") ∈ GL := tw (k := 92) (by decide +kernel) (by decide +kernel)
theorem t_93 : (Cond.fieldLink R_En 50 R_St "bytes" "[I") ∈ GL := tw (k := 93) (by decide +kernel) (by decide +kernel)
theorem t_94 : (Cond.fieldLink R_St 29 R_St "size" "I") ∈ GL := tw (k := 94) (by decide +kernel) (by decide +kernel)
theorem t_95 : (Cond.fieldLink R_X 96 R_St "size" "I") ∈ GL := tw (k := 95) (by decide +kernel) (by decide +kernel)
theorem t_96 : (Cond.fieldLink R_St 15 R_St "end" "I") ∈ GL := tw (k := 96) (by decide +kernel) (by decide +kernel)
theorem t_97 : (Cond.fieldLink R_X 174 R_St "end" "I") ∈ GL := tw (k := 97) (by decide +kernel) (by decide +kernel)
theorem t_98 : (Cond.laysFinal R_St R_St "bytes" "[I") ∈ GL := tw (k := 98) (by decide +kernel) (by decide +kernel)
theorem t_100 : (Cond.lays R_St R_St "size" "I") ∈ GL := tw (k := 100) (by decide +kernel) (by decide +kernel)
theorem t_102 : (Cond.lays R_St R_St "end" "I") ∈ GL := tw (k := 102) (by decide +kernel) (by decide +kernel)
theorem t_105 : (Cond.arrayClass .int) ∈ GL := tw (k := 105) (by decide +kernel) (by decide +kernel)
theorem t_106 : (Cond.classLink R_X 16 R_Wk) ∈ GL := tw (k := 106) (by decide +kernel) (by decide +kernel)
theorem t_107 : (Cond.instantiable R_Wk 4) ∈ GL := tw (k := 107) (by decide +kernel) (by decide +kernel)
theorem t_109 : (Cond.instanceMethod y_Wk_init) ∈ GL := tw (k := 109) (by decide +kernel) (by decide +kernel)
theorem t_110 : (Cond.code y_Wk_init b_Wk_init 1 none) ∈ GL := tw (k := 110) (by decide +kernel) (by decide +kernel)
theorem t_111 : (Cond.methodLink R_Wk 3 objectInit) ∈ GL := tw (k := 111) (by decide +kernel) (by decide +kernel)
theorem t_112 : (Cond.fieldLink R_Wk 9 R_Wk "places" "[I") ∈ GL := tw (k := 112) (by decide +kernel) (by decide +kernel)
theorem t_113 : (Cond.fieldLink R_X 191 R_Wk "places" "[I") ∈ GL := tw (k := 113) (by decide +kernel) (by decide +kernel)
theorem t_114 : (Cond.fieldLink R_Wk 15 R_Wk "met" "I") ∈ GL := tw (k := 114) (by decide +kernel) (by decide +kernel)
theorem t_115 : (Cond.fieldLink R_X 161 R_Wk "met" "I") ∈ GL := tw (k := 115) (by decide +kernel) (by decide +kernel)
theorem t_116 : (Cond.fieldLink R_Wk 19 R_Wk "ended" "Z") ∈ GL := tw (k := 116) (by decide +kernel) (by decide +kernel)
theorem t_117 : (Cond.fieldLink R_X 157 R_Wk "ended" "Z") ∈ GL := tw (k := 117) (by decide +kernel) (by decide +kernel)
theorem t_118 : (Cond.fieldLink R_Wk 23 R_Wk "link" "I") ∈ GL := tw (k := 118) (by decide +kernel) (by decide +kernel)
theorem t_119 : (Cond.fieldLink R_X 177 R_Wk "link" "I") ∈ GL := tw (k := 119) (by decide +kernel) (by decide +kernel)
theorem t_120 : (Cond.laysFinal R_Wk R_Wk "places" "[I") ∈ GL := tw (k := 120) (by decide +kernel) (by decide +kernel)
theorem t_122 : (Cond.lays R_Wk R_Wk "met" "I") ∈ GL := tw (k := 122) (by decide +kernel) (by decide +kernel)
theorem t_124 : (Cond.lays R_Wk R_Wk "ended" "Z") ∈ GL := tw (k := 124) (by decide +kernel) (by decide +kernel)
theorem t_126 : (Cond.lays R_Wk R_Wk "link" "I") ∈ GL := tw (k := 126) (by decide +kernel) (by decide +kernel)
theorem t_129 : (Cond.classLink R_X 23 R_Pi) ∈ GL := tw (k := 129) (by decide +kernel) (by decide +kernel)
theorem t_130 : (Cond.instantiable R_Pi 4) ∈ GL := tw (k := 130) (by decide +kernel) (by decide +kernel)
theorem t_132 : (Cond.instanceMethod y_Pi_init) ∈ GL := tw (k := 132) (by decide +kernel) (by decide +kernel)
theorem t_133 : (Cond.code y_Pi_init b_Pi_init 1 none) ∈ GL := tw (k := 133) (by decide +kernel) (by decide +kernel)
theorem t_134 : (Cond.methodLink R_Pi 3 objectInit) ∈ GL := tw (k := 134) (by decide +kernel) (by decide +kernel)
theorem t_135 : (Cond.fieldLink R_Pi 9 R_Pi "samples" "[I") ∈ GL := tw (k := 135) (by decide +kernel) (by decide +kernel)
theorem t_136 : (Cond.fieldLink R_Pi 15 R_Pi "columns" "I") ∈ GL := tw (k := 136) (by decide +kernel) (by decide +kernel)
theorem t_137 : (Cond.fieldLink R_X 118 R_Pi "columns" "I") ∈ GL := tw (k := 137) (by decide +kernel) (by decide +kernel)
theorem t_138 : (Cond.fieldLink R_Pi 19 R_Pi "rows" "I") ∈ GL := tw (k := 138) (by decide +kernel) (by decide +kernel)
theorem t_139 : (Cond.fieldLink R_X 121 R_Pi "rows" "I") ∈ GL := tw (k := 139) (by decide +kernel) (by decide +kernel)
theorem t_140 : (Cond.fieldLink R_Pi 22 R_Pi "depth" "I") ∈ GL := tw (k := 140) (by decide +kernel) (by decide +kernel)
theorem t_141 : (Cond.fieldLink R_X 115 R_Pi "depth" "I") ∈ GL := tw (k := 141) (by decide +kernel) (by decide +kernel)
theorem t_142 : (Cond.laysFinal R_Pi R_Pi "samples" "[I") ∈ GL := tw (k := 142) (by decide +kernel) (by decide +kernel)
theorem t_144 : (Cond.lays R_Pi R_Pi "columns" "I") ∈ GL := tw (k := 144) (by decide +kernel) (by decide +kernel)
theorem t_146 : (Cond.lays R_Pi R_Pi "rows" "I") ∈ GL := tw (k := 146) (by decide +kernel) (by decide +kernel)
theorem t_148 : (Cond.lays R_Pi R_Pi "depth" "I") ∈ GL := tw (k := 148) (by decide +kernel) (by decide +kernel)
theorem t_151 : (Cond.classLink R_X 30 R_Lb) ∈ GL := tw (k := 151) (by decide +kernel) (by decide +kernel)
theorem t_152 : (Cond.instantiable R_Lb 4) ∈ GL := tw (k := 152) (by decide +kernel) (by decide +kernel)
theorem t_154 : (Cond.instanceMethod y_Lb_init) ∈ GL := tw (k := 154) (by decide +kernel) (by decide +kernel)
theorem t_155 : (Cond.code y_Lb_init b_Lb_init 1 none) ∈ GL := tw (k := 155) (by decide +kernel) (by decide +kernel)
theorem t_156 : (Cond.methodLink R_Lb 3 objectInit) ∈ GL := tw (k := 156) (by decide +kernel) (by decide +kernel)
theorem t_157 : (Cond.fieldLink R_Lb 9 R_Lb "tags" "[I") ∈ GL := tw (k := 157) (by decide +kernel) (by decide +kernel)
theorem t_158 : (Cond.fieldLink R_X 317 R_Lb "tags" "[I") ∈ GL := tw (k := 158) (by decide +kernel) (by decide +kernel)
theorem t_159 : (Cond.fieldLink R_Lb 15 R_Lb "sizes" "[I") ∈ GL := tw (k := 159) (by decide +kernel) (by decide +kernel)
theorem t_160 : (Cond.fieldLink R_Lb 18 R_Lb "characters" "[I") ∈ GL := tw (k := 160) (by decide +kernel) (by decide +kernel)
theorem t_161 : (Cond.fieldLink R_Lb 25 R_Lb "count" "I") ∈ GL := tw (k := 161) (by decide +kernel) (by decide +kernel)
theorem t_162 : (Cond.fieldLink R_X 144 R_Lb "count" "I") ∈ GL := tw (k := 162) (by decide +kernel) (by decide +kernel)
theorem t_163 : (Cond.laysFinal R_Lb R_Lb "tags" "[I") ∈ GL := tw (k := 163) (by decide +kernel) (by decide +kernel)
theorem t_165 : (Cond.laysFinal R_Lb R_Lb "sizes" "[I") ∈ GL := tw (k := 165) (by decide +kernel) (by decide +kernel)
theorem t_167 : (Cond.laysFinal R_Lb R_Lb "characters" "[I") ∈ GL := tw (k := 167) (by decide +kernel) (by decide +kernel)
theorem t_169 : (Cond.lays R_Lb R_Lb "count" "I") ∈ GL := tw (k := 169) (by decide +kernel) (by decide +kernel)
theorem t_172 : (Cond.classLink R_X 37 R_Ly) ∈ GL := tw (k := 172) (by decide +kernel) (by decide +kernel)
theorem t_173 : (Cond.instantiable R_Ly 6) ∈ GL := tw (k := 173) (by decide +kernel) (by decide +kernel)
theorem t_175 : (Cond.instanceMethod y_Ly_init) ∈ GL := tw (k := 175) (by decide +kernel) (by decide +kernel)
theorem t_176 : (Cond.code y_Ly_init b_Ly_init 1 none) ∈ GL := tw (k := 176) (by decide +kernel) (by decide +kernel)
theorem t_177 : (Cond.methodLink R_Ly 3 objectInit) ∈ GL := tw (k := 177) (by decide +kernel) (by decide +kernel)
theorem t_178 : (Cond.fieldLink R_Ly 9 R_Ly "columns" "I") ∈ GL := tw (k := 178) (by decide +kernel) (by decide +kernel)
theorem t_179 : (Cond.fieldLink R_Da 27 R_Ly "columns" "I") ∈ GL := tw (k := 179) (by decide +kernel) (by decide +kernel)
theorem t_180 : (Cond.fieldLink R_X 203 R_Ly "columns" "I") ∈ GL := tw (k := 180) (by decide +kernel) (by decide +kernel)
theorem t_181 : (Cond.fieldLink R_Ly 15 R_Ly "rows" "I") ∈ GL := tw (k := 181) (by decide +kernel) (by decide +kernel)
theorem t_182 : (Cond.fieldLink R_Da 21 R_Ly "rows" "I") ∈ GL := tw (k := 182) (by decide +kernel) (by decide +kernel)
theorem t_183 : (Cond.fieldLink R_X 204 R_Ly "rows" "I") ∈ GL := tw (k := 183) (by decide +kernel) (by decide +kernel)
theorem t_184 : (Cond.fieldLink R_Ly 18 R_Ly "depth" "I") ∈ GL := tw (k := 184) (by decide +kernel) (by decide +kernel)
theorem t_185 : (Cond.fieldLink R_Da 43 R_Ly "depth" "I") ∈ GL := tw (k := 185) (by decide +kernel) (by decide +kernel)
theorem t_186 : (Cond.fieldLink R_X 205 R_Ly "depth" "I") ∈ GL := tw (k := 186) (by decide +kernel) (by decide +kernel)
theorem t_187 : (Cond.fieldLink R_Ly 21 R_Ly "compression" "I") ∈ GL := tw (k := 187) (by decide +kernel) (by decide +kernel)
theorem t_188 : (Cond.fieldLink R_X 258 R_Ly "compression" "I") ∈ GL := tw (k := 188) (by decide +kernel) (by decide +kernel)
theorem t_189 : (Cond.fieldLink R_Ly 24 R_Ly "rowsAStrip" "I") ∈ GL := tw (k := 189) (by decide +kernel) (by decide +kernel)
theorem t_190 : (Cond.fieldLink R_X 308 R_Ly "rowsAStrip" "I") ∈ GL := tw (k := 190) (by decide +kernel) (by decide +kernel)
theorem t_191 : (Cond.fieldLink R_Ly 27 R_Ly "predictor" "I") ∈ GL := tw (k := 191) (by decide +kernel) (by decide +kernel)
theorem t_192 : (Cond.fieldLink R_Da 36 R_Ly "predictor" "I") ∈ GL := tw (k := 192) (by decide +kernel) (by decide +kernel)
theorem t_193 : (Cond.fieldLink R_X 311 R_Ly "predictor" "I") ∈ GL := tw (k := 193) (by decide +kernel) (by decide +kernel)
theorem t_194 : (Cond.lays R_Ly R_Ly "columns" "I") ∈ GL := tw (k := 194) (by decide +kernel) (by decide +kernel)
theorem t_196 : (Cond.lays R_Ly R_Ly "rows" "I") ∈ GL := tw (k := 196) (by decide +kernel) (by decide +kernel)
theorem t_198 : (Cond.lays R_Ly R_Ly "depth" "I") ∈ GL := tw (k := 198) (by decide +kernel) (by decide +kernel)
theorem t_200 : (Cond.lays R_Ly R_Ly "compression" "I") ∈ GL := tw (k := 200) (by decide +kernel) (by decide +kernel)
theorem t_202 : (Cond.lays R_Ly R_Ly "rowsAStrip" "I") ∈ GL := tw (k := 202) (by decide +kernel) (by decide +kernel)
theorem t_204 : (Cond.lays R_Ly R_Ly "predictor" "I") ∈ GL := tw (k := 204) (by decide +kernel) (by decide +kernel)
theorem t_207 : (Cond.classLink R_X 44 R_Da) ∈ GL := tw (k := 207) (by decide +kernel) (by decide +kernel)
theorem t_208 : (Cond.instantiable R_Da 1) ∈ GL := tw (k := 208) (by decide +kernel) (by decide +kernel)
theorem t_210 : (Cond.instanceMethod y_Da_init) ∈ GL := tw (k := 210) (by decide +kernel) (by decide +kernel)
theorem t_211 : (Cond.code y_Da_init b_Da_init 1 none) ∈ GL := tw (k := 211) (by decide +kernel) (by decide +kernel)
theorem t_212 : (Cond.methodLink R_Da 3 objectInit) ∈ GL := tw (k := 212) (by decide +kernel) (by decide +kernel)
theorem t_213 : (Cond.fieldLink R_Da 9 R_Da "bytes" "[I") ∈ GL := tw (k := 213) (by decide +kernel) (by decide +kernel)
theorem t_214 : (Cond.fieldLink R_X 279 R_Da "bytes" "[I") ∈ GL := tw (k := 214) (by decide +kernel) (by decide +kernel)
theorem t_215 : (Cond.laysFinal R_Da R_Da "bytes" "[I") ∈ GL := tw (k := 215) (by decide +kernel) (by decide +kernel)
theorem t_218 : (Cond.classLink R_X 51 R_Ne) ∈ GL := tw (k := 218) (by decide +kernel) (by decide +kernel)
theorem t_219 : (Cond.instantiable R_Ne 6) ∈ GL := tw (k := 219) (by decide +kernel) (by decide +kernel)
theorem t_221 : (Cond.instanceMethod y_Ne_init) ∈ GL := tw (k := 221) (by decide +kernel) (by decide +kernel)
theorem t_222 : (Cond.code y_Ne_init b_Ne_init 1 none) ∈ GL := tw (k := 222) (by decide +kernel) (by decide +kernel)
theorem t_223 : (Cond.methodLink R_Ne 3 objectInit) ∈ GL := tw (k := 223) (by decide +kernel) (by decide +kernel)
theorem t_224 : (Cond.fieldLink R_Ne 9 R_Ne "firstChild" "[I") ∈ GL := tw (k := 224) (by decide +kernel) (by decide +kernel)
theorem t_225 : (Cond.fieldLink R_Ne 15 R_Ne "nextSibling" "[I") ∈ GL := tw (k := 225) (by decide +kernel) (by decide +kernel)
theorem t_226 : (Cond.fieldLink R_Ne 18 R_Ne "lastNibble" "[I") ∈ GL := tw (k := 226) (by decide +kernel) (by decide +kernel)
theorem t_227 : (Cond.fieldLink R_Ne 28 R_Ne "codeNumber" "I") ∈ GL := tw (k := 227) (by decide +kernel) (by decide +kernel)
theorem t_228 : (Cond.fieldLink R_Ne 21 R_Ne "pending" "I") ∈ GL := tw (k := 228) (by decide +kernel) (by decide +kernel)
theorem t_229 : (Cond.fieldLink R_Ne 25 R_Ne "pendingBits" "I") ∈ GL := tw (k := 229) (by decide +kernel) (by decide +kernel)
theorem t_230 : (Cond.laysFinal R_Ne R_Ne "firstChild" "[I") ∈ GL := tw (k := 230) (by decide +kernel) (by decide +kernel)
theorem t_232 : (Cond.laysFinal R_Ne R_Ne "nextSibling" "[I") ∈ GL := tw (k := 232) (by decide +kernel) (by decide +kernel)
theorem t_234 : (Cond.laysFinal R_Ne R_Ne "lastNibble" "[I") ∈ GL := tw (k := 234) (by decide +kernel) (by decide +kernel)
theorem t_236 : (Cond.lays R_Ne R_Ne "codeNumber" "I") ∈ GL := tw (k := 236) (by decide +kernel) (by decide +kernel)
theorem t_238 : (Cond.lays R_Ne R_Ne "pending" "I") ∈ GL := tw (k := 238) (by decide +kernel) (by decide +kernel)
theorem t_240 : (Cond.lays R_Ne R_Ne "pendingBits" "I") ∈ GL := tw (k := 240) (by decide +kernel) (by decide +kernel)
end
section
theorem t_243 : (Cond.classLink R_X 58 R_Nd) ∈ GL := tw (k := 243) (by decide +kernel) (by decide +kernel)
theorem t_244 : (Cond.instantiable R_Nd 3) ∈ GL := tw (k := 244) (by decide +kernel) (by decide +kernel)
theorem t_246 : (Cond.instanceMethod y_Nd_init) ∈ GL := tw (k := 246) (by decide +kernel) (by decide +kernel)
theorem t_247 : (Cond.code y_Nd_init b_Nd_init 1 none) ∈ GL := tw (k := 247) (by decide +kernel) (by decide +kernel)
theorem t_248 : (Cond.methodLink R_Nd 3 objectInit) ∈ GL := tw (k := 248) (by decide +kernel) (by decide +kernel)
theorem t_249 : (Cond.fieldLink R_Nd 9 R_Nd "starts" "[I") ∈ GL := tw (k := 249) (by decide +kernel) (by decide +kernel)
theorem t_250 : (Cond.fieldLink R_Nd 15 R_Nd "sizes" "[I") ∈ GL := tw (k := 250) (by decide +kernel) (by decide +kernel)
theorem t_251 : (Cond.fieldLink R_Nd 22 R_Nd "codeNumber" "I") ∈ GL := tw (k := 251) (by decide +kernel) (by decide +kernel)
theorem t_252 : (Cond.laysFinal R_Nd R_Nd "starts" "[I") ∈ GL := tw (k := 252) (by decide +kernel) (by decide +kernel)
theorem t_254 : (Cond.laysFinal R_Nd R_Nd "sizes" "[I") ∈ GL := tw (k := 254) (by decide +kernel) (by decide +kernel)
theorem t_256 : (Cond.lays R_Nd R_Nd "codeNumber" "I") ∈ GL := tw (k := 256) (by decide +kernel) (by decide +kernel)
theorem t_259 : (Cond.classLink R_X 65 R_En) ∈ GL := tw (k := 259) (by decide +kernel) (by decide +kernel)
theorem t_260 : (Cond.instantiable R_En 4) ∈ GL := tw (k := 260) (by decide +kernel) (by decide +kernel)
theorem t_262 : (Cond.instanceMethod y_En_init) ∈ GL := tw (k := 262) (by decide +kernel) (by decide +kernel)
theorem t_263 : (Cond.code y_En_init b_En_init 1 none) ∈ GL := tw (k := 263) (by decide +kernel) (by decide +kernel)
theorem t_264 : (Cond.methodLink R_En 3 objectInit) ∈ GL := tw (k := 264) (by decide +kernel) (by decide +kernel)
theorem t_265 : (Cond.fieldLink R_En 21 R_En "kind" "I") ∈ GL := tw (k := 265) (by decide +kernel) (by decide +kernel)
theorem t_266 : (Cond.fieldLink R_En 29 R_En "count" "J") ∈ GL := tw (k := 266) (by decide +kernel) (by decide +kernel)
theorem t_267 : (Cond.fieldLink R_X 213 R_En "count" "J") ∈ GL := tw (k := 267) (by decide +kernel) (by decide +kernel)
theorem t_268 : (Cond.fieldLink R_En 39 R_En "place" "J") ∈ GL := tw (k := 268) (by decide +kernel) (by decide +kernel)
theorem t_269 : (Cond.fieldLink R_En 46 R_En "broken" "Z") ∈ GL := tw (k := 269) (by decide +kernel) (by decide +kernel)
theorem t_270 : (Cond.fieldLink R_X 324 R_En "broken" "Z") ∈ GL := tw (k := 270) (by decide +kernel) (by decide +kernel)
theorem t_271 : (Cond.lays R_En R_En "kind" "I") ∈ GL := tw (k := 271) (by decide +kernel) (by decide +kernel)
theorem t_273 : (Cond.lays R_En R_En "count" "J") ∈ GL := tw (k := 273) (by decide +kernel) (by decide +kernel)
theorem t_275 : (Cond.lays R_En R_En "place" "J") ∈ GL := tw (k := 275) (by decide +kernel) (by decide +kernel)
theorem t_277 : (Cond.lays R_En R_En "broken" "Z") ∈ GL := tw (k := 277) (by decide +kernel) (by decide +kernel)
theorem t_280 : (Cond.methodLink R_X 88 y_St_restart) ∈ GL := tw (k := 280) (by decide +kernel) (by decide +kernel)
theorem t_281 : (Cond.instanceMethod y_St_restart) ∈ GL := tw (k := 281) (by decide +kernel) (by decide +kernel)
theorem t_282 : (Cond.selects R_St y_St_restart y_St_restart) ∈ GL := tw (k := 282) (by decide +kernel) (by decide +kernel)
theorem t_283 : (Cond.code y_St_restart b_St_restart 3 none) ∈ GL := tw (k := 283) (by decide +kernel) (by decide +kernel)
theorem t_284 : (Cond.methodLink R_St 19 y_St_append) ∈ GL := tw (k := 284) (by decide +kernel) (by decide +kernel)
theorem t_285 : (Cond.instanceMethod y_St_append) ∈ GL := tw (k := 285) (by decide +kernel) (by decide +kernel)
theorem t_286 : (Cond.selects R_St y_St_append y_St_append) ∈ GL := tw (k := 286) (by decide +kernel) (by decide +kernel)
theorem t_287 : (Cond.code y_St_append b_St_append 2 none) ∈ GL := tw (k := 287) (by decide +kernel) (by decide +kernel)
theorem t_288 : (Cond.methodLink R_St 23 y_St_appendShort) ∈ GL := tw (k := 288) (by decide +kernel) (by decide +kernel)
theorem t_289 : (Cond.instanceMethod y_St_appendShort) ∈ GL := tw (k := 289) (by decide +kernel) (by decide +kernel)
theorem t_290 : (Cond.selects R_St y_St_appendShort y_St_appendShort) ∈ GL := tw (k := 290) (by decide +kernel) (by decide +kernel)
theorem t_291 : (Cond.code y_St_appendShort b_St_appendShort 3 none) ∈ GL := tw (k := 291) (by decide +kernel) (by decide +kernel)
theorem t_292 : (Cond.methodLink R_St 26 y_St_appendLong) ∈ GL := tw (k := 292) (by decide +kernel) (by decide +kernel)
theorem t_293 : (Cond.instanceMethod y_St_appendLong) ∈ GL := tw (k := 293) (by decide +kernel) (by decide +kernel)
theorem t_294 : (Cond.selects R_St y_St_appendLong y_St_appendLong) ∈ GL := tw (k := 294) (by decide +kernel) (by decide +kernel)
theorem t_295 : (Cond.code y_St_appendLong b_St_appendLong 3 none) ∈ GL := tw (k := 295) (by decide +kernel) (by decide +kernel)
theorem t_296 : (Cond.methodLink R_St 44 y_St_byteOfLong) ∈ GL := tw (k := 296) (by decide +kernel) (by decide +kernel)
theorem t_298 : (Cond.instanceMethod y_St_byteOfLong) ∈ GL := tw (k := 298) (by decide +kernel) (by decide +kernel)
theorem t_299 : (Cond.code y_St_byteOfLong b_St_byteOfLong 4 (some .int)) ∈ GL := tw (k := 299) (by decide +kernel) (by decide +kernel)
theorem t_300 : (Cond.methodLink R_X 92 y_Pi_become) ∈ GL := tw (k := 300) (by decide +kernel) (by decide +kernel)
theorem t_301 : (Cond.instanceMethod y_Pi_become) ∈ GL := tw (k := 301) (by decide +kernel) (by decide +kernel)
theorem t_302 : (Cond.selects R_Pi y_Pi_become y_Pi_become) ∈ GL := tw (k := 302) (by decide +kernel) (by decide +kernel)
theorem t_303 : (Cond.code y_Pi_become b_Pi_become 4 none) ∈ GL := tw (k := 303) (by decide +kernel) (by decide +kernel)
theorem t_304 : (Cond.methodLink R_Pi 25 y_J_fill) ∈ GL := tw (k := 304) (by decide +kernel) (by decide +kernel)
theorem t_305 : (Cond.static y_J_fill) ∈ GL := tw (k := 305) (by decide +kernel) (by decide +kernel)
theorem t_306 : (Cond.code y_J_fill b_J_fill 4 none) ∈ GL := tw (k := 306) (by decide +kernel) (by decide +kernel)
theorem t_307 : (Cond.fieldLink R_X 10 R_X "file" "LTaggedRaster$Store;") ∈ GL := tw (k := 307) (by decide +kernel) (by decide +kernel)
theorem t_308 : (Cond.fieldLink R_X 19 R_X "walk" "LTaggedRaster$Walk;") ∈ GL := tw (k := 308) (by decide +kernel) (by decide +kernel)
theorem t_309 : (Cond.fieldLink R_X 26 R_X "picture" "LTaggedRaster$Picture;") ∈ GL := tw (k := 309) (by decide +kernel) (by decide +kernel)
theorem t_310 : (Cond.fieldLink R_X 33 R_X "labels" "LTaggedRaster$Labels;") ∈ GL := tw (k := 310) (by decide +kernel) (by decide +kernel)
theorem t_311 : (Cond.fieldLink R_X 40 R_X "layout" "LTaggedRaster$Layout;") ∈ GL := tw (k := 311) (by decide +kernel) (by decide +kernel)
theorem t_312 : (Cond.fieldLink R_X 47 R_X "data" "LTaggedRaster$Data;") ∈ GL := tw (k := 312) (by decide +kernel) (by decide +kernel)
theorem t_313 : (Cond.fieldLink R_X 54 R_X "encoder" "LTaggedRaster$NibbleEncoder;") ∈ GL := tw (k := 313) (by decide +kernel) (by decide +kernel)
theorem t_314 : (Cond.fieldLink R_X 61 R_X "decoder" "LTaggedRaster$NibbleDecoder;") ∈ GL := tw (k := 314) (by decide +kernel) (by decide +kernel)
theorem t_315 : (Cond.fieldLink R_X 68 R_X "entry" "LTaggedRaster$Entry;") ∈ GL := tw (k := 315) (by decide +kernel) (by decide +kernel)
theorem t_316 : (Cond.fieldLink R_X 72 R_X "stripPlaces" "LTaggedRaster$Entry;") ∈ GL := tw (k := 316) (by decide +kernel) (by decide +kernel)
theorem t_317 : (Cond.fieldLink R_X 75 R_X "stripLengths" "LTaggedRaster$Entry;") ∈ GL := tw (k := 317) (by decide +kernel) (by decide +kernel)
theorem t_318 : (Cond.fieldLink R_X 78 R_X "writtenPlaces" "[I") ∈ GL := tw (k := 318) (by decide +kernel) (by decide +kernel)
theorem t_319 : (Cond.fieldLink R_X 82 R_X "writtenLengths" "[I") ∈ GL := tw (k := 319) (by decide +kernel) (by decide +kernel)
theorem t_320 : (Cond.fieldLink R_X 85 R_X "writtenTexts" "[I") ∈ GL := tw (k := 320) (by decide +kernel) (by decide +kernel)
theorem t_321 : (Cond.laysFinal R_X R_X "file" "LTaggedRaster$Store;") ∈ GL := tw (k := 321) (by decide +kernel) (by decide +kernel)
theorem t_323 : (Cond.laysFinal R_X R_X "walk" "LTaggedRaster$Walk;") ∈ GL := tw (k := 323) (by decide +kernel) (by decide +kernel)
theorem t_325 : (Cond.laysFinal R_X R_X "picture" "LTaggedRaster$Picture;") ∈ GL := tw (k := 325) (by decide +kernel) (by decide +kernel)
theorem t_327 : (Cond.laysFinal R_X R_X "labels" "LTaggedRaster$Labels;") ∈ GL := tw (k := 327) (by decide +kernel) (by decide +kernel)
theorem t_329 : (Cond.laysFinal R_X R_X "layout" "LTaggedRaster$Layout;") ∈ GL := tw (k := 329) (by decide +kernel) (by decide +kernel)
theorem t_331 : (Cond.laysFinal R_X R_X "data" "LTaggedRaster$Data;") ∈ GL := tw (k := 331) (by decide +kernel) (by decide +kernel)
theorem t_333 : (Cond.laysFinal R_X R_X "encoder" "LTaggedRaster$NibbleEncoder;") ∈ GL := tw (k := 333) (by decide +kernel) (by decide +kernel)
theorem t_335 : (Cond.laysFinal R_X R_X "decoder" "LTaggedRaster$NibbleDecoder;") ∈ GL := tw (k := 335) (by decide +kernel) (by decide +kernel)
theorem t_337 : (Cond.laysFinal R_X R_X "entry" "LTaggedRaster$Entry;") ∈ GL := tw (k := 337) (by decide +kernel) (by decide +kernel)
theorem t_339 : (Cond.laysFinal R_X R_X "stripPlaces" "LTaggedRaster$Entry;") ∈ GL := tw (k := 339) (by decide +kernel) (by decide +kernel)
theorem t_341 : (Cond.laysFinal R_X R_X "stripLengths" "LTaggedRaster$Entry;") ∈ GL := tw (k := 341) (by decide +kernel) (by decide +kernel)
theorem t_343 : (Cond.laysFinal R_X R_X "writtenPlaces" "[I") ∈ GL := tw (k := 343) (by decide +kernel) (by decide +kernel)
theorem t_345 : (Cond.laysFinal R_X R_X "writtenLengths" "[I") ∈ GL := tw (k := 345) (by decide +kernel) (by decide +kernel)
theorem t_347 : (Cond.laysFinal R_X R_X "writtenTexts" "[I") ∈ GL := tw (k := 347) (by decide +kernel) (by decide +kernel)
theorem t_350 : (Cond.methodLink RL 13 y_X_clear) ∈ GL := tw (k := 350) (by decide +kernel) (by decide +kernel)
theorem t_351 : (Cond.instanceMethod y_X_clear) ∈ GL := tw (k := 351) (by decide +kernel) (by decide +kernel)
theorem t_352 : (Cond.selects R_X y_X_clear y_X_clear) ∈ GL := tw (k := 352) (by decide +kernel) (by decide +kernel)
theorem t_353 : (Cond.code y_X_clear b_X_clear 2 none) ∈ GL := tw (k := 353) (by decide +kernel) (by decide +kernel)
theorem t_354 : (Cond.methodLink RL 18 y_X_length) ∈ GL := tw (k := 354) (by decide +kernel) (by decide +kernel)
theorem t_355 : (Cond.instanceMethod y_X_length) ∈ GL := tw (k := 355) (by decide +kernel) (by decide +kernel)
theorem t_356 : (Cond.selects R_X y_X_length y_X_length) ∈ GL := tw (k := 356) (by decide +kernel) (by decide +kernel)
theorem t_357 : (Cond.code y_X_length b_X_length 1 (some .int)) ∈ GL := tw (k := 357) (by decide +kernel) (by decide +kernel)
theorem t_358 : (Cond.methodLink RL 23 y_X_byteAt) ∈ GL := tw (k := 358) (by decide +kernel) (by decide +kernel)
theorem t_359 : (Cond.instanceMethod y_X_byteAt) ∈ GL := tw (k := 359) (by decide +kernel) (by decide +kernel)
theorem t_360 : (Cond.selects R_X y_X_byteAt y_X_byteAt) ∈ GL := tw (k := 360) (by decide +kernel) (by decide +kernel)
theorem t_361 : (Cond.code y_X_byteAt b_X_byteAt 2 (some .int)) ∈ GL := tw (k := 361) (by decide +kernel) (by decide +kernel)
theorem t_362 : (Cond.methodLink R_X 100 y_St_holds) ∈ GL := tw (k := 362) (by decide +kernel) (by decide +kernel)
theorem t_363 : (Cond.instanceMethod y_St_holds) ∈ GL := tw (k := 363) (by decide +kernel) (by decide +kernel)
theorem t_364 : (Cond.selects R_St y_St_holds y_St_holds) ∈ GL := tw (k := 364) (by decide +kernel) (by decide +kernel)
theorem t_365 : (Cond.code y_St_holds b_St_holds 5 (some .boolean)) ∈ GL := tw (k := 365) (by decide +kernel) (by decide +kernel)
theorem t_366 : (Cond.methodLink RL 28 y_X_poke) ∈ GL := tw (k := 366) (by decide +kernel) (by decide +kernel)
theorem t_367 : (Cond.instanceMethod y_X_poke) ∈ GL := tw (k := 367) (by decide +kernel) (by decide +kernel)
theorem t_368 : (Cond.selects R_X y_X_poke y_X_poke) ∈ GL := tw (k := 368) (by decide +kernel) (by decide +kernel)
theorem t_369 : (Cond.code y_X_poke b_X_poke 3 (some .boolean)) ∈ GL := tw (k := 369) (by decide +kernel) (by decide +kernel)
theorem t_370 : (Cond.methodLink RL 33 y_X_begin) ∈ GL := tw (k := 370) (by decide +kernel) (by decide +kernel)
theorem t_371 : (Cond.instanceMethod y_X_begin) ∈ GL := tw (k := 371) (by decide +kernel) (by decide +kernel)
theorem t_372 : (Cond.selects R_X y_X_begin y_X_begin) ∈ GL := tw (k := 372) (by decide +kernel) (by decide +kernel)
theorem t_373 : (Cond.code y_X_begin b_X_begin 4 (some .boolean)) ∈ GL := tw (k := 373) (by decide +kernel) (by decide +kernel)
theorem t_374 : (Cond.methodLink R_X 107 y_X_isSide) ∈ GL := tw (k := 374) (by decide +kernel) (by decide +kernel)
theorem t_375 : (Cond.static y_X_isSide) ∈ GL := tw (k := 375) (by decide +kernel) (by decide +kernel)
theorem t_376 : (Cond.code y_X_isSide b_X_isSide 2 (some .boolean)) ∈ GL := tw (k := 376) (by decide +kernel) (by decide +kernel)
theorem t_377 : (Cond.constantLong R_X 222 16) ∈ GL := tw (k := 377) (by decide +kernel) (by decide +kernel)
theorem t_378 : (Cond.methodLink R_X 111 y_X_isDepth) ∈ GL := tw (k := 378) (by decide +kernel) (by decide +kernel)
theorem t_379 : (Cond.static y_X_isDepth) ∈ GL := tw (k := 379) (by decide +kernel) (by decide +kernel)
theorem t_380 : (Cond.code y_X_isDepth b_X_isDepth 2 (some .boolean)) ∈ GL := tw (k := 380) (by decide +kernel) (by decide +kernel)
theorem t_381 : (Cond.constantLong R_X 224 2) ∈ GL := tw (k := 381) (by decide +kernel) (by decide +kernel)
theorem t_382 : (Cond.constantLong R_X 226 4) ∈ GL := tw (k := 382) (by decide +kernel) (by decide +kernel)
theorem t_383 : (Cond.constantLong R_X 228 8) ∈ GL := tw (k := 383) (by decide +kernel) (by decide +kernel)
theorem t_384 : (Cond.methodLink RL 38 y_X_shape) ∈ GL := tw (k := 384) (by decide +kernel) (by decide +kernel)
theorem t_385 : (Cond.instanceMethod y_X_shape) ∈ GL := tw (k := 385) (by decide +kernel) (by decide +kernel)
theorem t_386 : (Cond.selects R_X y_X_shape y_X_shape) ∈ GL := tw (k := 386) (by decide +kernel) (by decide +kernel)
theorem t_387 : (Cond.code y_X_shape b_X_shape 1 (some .int)) ∈ GL := tw (k := 387) (by decide +kernel) (by decide +kernel)
theorem t_388 : (Cond.constant R_X 114 1000000) ∈ GL := tw (k := 388) (by decide +kernel) (by decide +kernel)
theorem t_389 : (Cond.methodLink RL 42 y_X_fill) ∈ GL := tw (k := 389) (by decide +kernel) (by decide +kernel)
theorem t_390 : (Cond.instanceMethod y_X_fill) ∈ GL := tw (k := 390) (by decide +kernel) (by decide +kernel)
theorem t_391 : (Cond.selects R_X y_X_fill y_X_fill) ∈ GL := tw (k := 391) (by decide +kernel) (by decide +kernel)
theorem t_392 : (Cond.code y_X_fill b_X_fill 8 (some .boolean)) ∈ GL := tw (k := 392) (by decide +kernel) (by decide +kernel)
theorem t_393 : (Cond.methodLink R_X 124 y_Pi_has) ∈ GL := tw (k := 393) (by decide +kernel) (by decide +kernel)
theorem t_394 : (Cond.instanceMethod y_Pi_has) ∈ GL := tw (k := 394) (by decide +kernel) (by decide +kernel)
theorem t_395 : (Cond.selects R_Pi y_Pi_has y_Pi_has) ∈ GL := tw (k := 395) (by decide +kernel) (by decide +kernel)
theorem t_396 : (Cond.code y_Pi_has b_Pi_has 3 (some .boolean)) ∈ GL := tw (k := 396) (by decide +kernel) (by decide +kernel)
theorem t_397 : (Cond.methodLink R_X 128 y_Pi_greatest) ∈ GL := tw (k := 397) (by decide +kernel) (by decide +kernel)
theorem t_398 : (Cond.instanceMethod y_Pi_greatest) ∈ GL := tw (k := 398) (by decide +kernel) (by decide +kernel)
theorem t_399 : (Cond.selects R_Pi y_Pi_greatest y_Pi_greatest) ∈ GL := tw (k := 399) (by decide +kernel) (by decide +kernel)
theorem t_400 : (Cond.code y_Pi_greatest b_Pi_greatest 1 (some .int)) ∈ GL := tw (k := 400) (by decide +kernel) (by decide +kernel)
theorem t_401 : (Cond.methodLink R_X 132 y_Pi_put) ∈ GL := tw (k := 401) (by decide +kernel) (by decide +kernel)
theorem t_402 : (Cond.instanceMethod y_Pi_put) ∈ GL := tw (k := 402) (by decide +kernel) (by decide +kernel)
theorem t_403 : (Cond.selects R_Pi y_Pi_put y_Pi_put) ∈ GL := tw (k := 403) (by decide +kernel) (by decide +kernel)
theorem t_404 : (Cond.code y_Pi_put b_Pi_put 4 none) ∈ GL := tw (k := 404) (by decide +kernel) (by decide +kernel)
theorem t_405 : (Cond.methodLink R_Pi 31 y_Pi_has) ∈ GL := tw (k := 405) (by decide +kernel) (by decide +kernel)
theorem t_406 : (Cond.methodLink R_Pi 35 y_Pi_greatest) ∈ GL := tw (k := 406) (by decide +kernel) (by decide +kernel)
theorem t_407 : (Cond.methodLink RL 47 y_X_wash) ∈ GL := tw (k := 407) (by decide +kernel) (by decide +kernel)
theorem t_408 : (Cond.instanceMethod y_X_wash) ∈ GL := tw (k := 408) (by decide +kernel) (by decide +kernel)
theorem t_409 : (Cond.selects R_X y_X_wash y_X_wash) ∈ GL := tw (k := 409) (by decide +kernel) (by decide +kernel)
theorem t_410 : (Cond.code y_X_wash b_X_wash 6 none) ∈ GL := tw (k := 410) (by decide +kernel) (by decide +kernel)
theorem t_411 : (Cond.methodLink R_X 135 y_Pi_get) ∈ GL := tw (k := 411) (by decide +kernel) (by decide +kernel)
theorem t_412 : (Cond.instanceMethod y_Pi_get) ∈ GL := tw (k := 412) (by decide +kernel) (by decide +kernel)
theorem t_413 : (Cond.selects R_Pi y_Pi_get y_Pi_get) ∈ GL := tw (k := 413) (by decide +kernel) (by decide +kernel)
theorem t_414 : (Cond.code y_Pi_get b_Pi_get 3 (some .int)) ∈ GL := tw (k := 414) (by decide +kernel) (by decide +kernel)
theorem t_415 : (Cond.methodLink RL 52 y_X_sample) ∈ GL := tw (k := 415) (by decide +kernel) (by decide +kernel)
theorem t_416 : (Cond.instanceMethod y_X_sample) ∈ GL := tw (k := 416) (by decide +kernel) (by decide +kernel)
theorem t_417 : (Cond.selects R_X y_X_sample y_X_sample) ∈ GL := tw (k := 417) (by decide +kernel) (by decide +kernel)
theorem t_418 : (Cond.code y_X_sample b_X_sample 3 (some .int)) ∈ GL := tw (k := 418) (by decide +kernel) (by decide +kernel)
theorem t_419 : (Cond.methodLink RL 57 y_X_label) ∈ GL := tw (k := 419) (by decide +kernel) (by decide +kernel)
theorem t_420 : (Cond.instanceMethod y_X_label) ∈ GL := tw (k := 420) (by decide +kernel) (by decide +kernel)
theorem t_421 : (Cond.selects R_X y_X_label y_X_label) ∈ GL := tw (k := 421) (by decide +kernel) (by decide +kernel)
theorem t_422 : (Cond.code y_X_label b_X_label 3 (some .boolean)) ∈ GL := tw (k := 422) (by decide +kernel) (by decide +kernel)
theorem t_423 : (Cond.constant R_X 139 32768) ∈ GL := tw (k := 423) (by decide +kernel) (by decide +kernel)
theorem t_424 : (Cond.constant R_X 140 65535) ∈ GL := tw (k := 424) (by decide +kernel) (by decide +kernel)
theorem t_425 : (Cond.methodLink R_X 141 y_Lb_add) ∈ GL := tw (k := 425) (by decide +kernel) (by decide +kernel)
theorem t_426 : (Cond.instanceMethod y_Lb_add) ∈ GL := tw (k := 426) (by decide +kernel) (by decide +kernel)
theorem t_427 : (Cond.selects R_Lb y_Lb_add y_Lb_add) ∈ GL := tw (k := 427) (by decide +kernel) (by decide +kernel)
theorem t_428 : (Cond.code y_Lb_add b_Lb_add 4 (some .boolean)) ∈ GL := tw (k := 428) (by decide +kernel) (by decide +kernel)
theorem t_429 : (Cond.methodLink R_Lb 21 y_Lb_indexOf) ∈ GL := tw (k := 429) (by decide +kernel) (by decide +kernel)
theorem t_431 : (Cond.instanceMethod y_Lb_indexOf) ∈ GL := tw (k := 431) (by decide +kernel) (by decide +kernel)
theorem t_432 : (Cond.code y_Lb_indexOf b_Lb_indexOf 3 (some .int)) ∈ GL := tw (k := 432) (by decide +kernel) (by decide +kernel)
theorem t_433 : (Cond.methodLink RL 61 y_X_unlabel) ∈ GL := tw (k := 433) (by decide +kernel) (by decide +kernel)
theorem t_434 : (Cond.instanceMethod y_X_unlabel) ∈ GL := tw (k := 434) (by decide +kernel) (by decide +kernel)
theorem t_435 : (Cond.selects R_X y_X_unlabel y_X_unlabel) ∈ GL := tw (k := 435) (by decide +kernel) (by decide +kernel)
theorem t_436 : (Cond.code y_X_unlabel b_X_unlabel 2 (some .int)) ∈ GL := tw (k := 436) (by decide +kernel) (by decide +kernel)
theorem t_437 : (Cond.methodLink RL 65 y_X_write) ∈ GL := tw (k := 437) (by decide +kernel) (by decide +kernel)
theorem t_438 : (Cond.instanceMethod y_X_write) ∈ GL := tw (k := 438) (by decide +kernel) (by decide +kernel)
theorem t_439 : (Cond.selects R_X y_X_write y_X_write) ∈ GL := tw (k := 439) (by decide +kernel) (by decide +kernel)
theorem t_440 : (Cond.code y_X_write b_X_write 5 (some .int)) ∈ GL := tw (k := 440) (by decide +kernel) (by decide +kernel)
theorem t_441 : (Cond.methodLink R_X 147 y_X_isCompression) ∈ GL := tw (k := 441) (by decide +kernel) (by decide +kernel)
theorem t_442 : (Cond.static y_X_isCompression) ∈ GL := tw (k := 442) (by decide +kernel) (by decide +kernel)
theorem t_443 : (Cond.code y_X_isCompression b_X_isCompression 2 (some .boolean)) ∈ GL := tw (k := 443) (by decide +kernel) (by decide +kernel)
theorem t_444 : (Cond.constantLong R_X 230 5) ∈ GL := tw (k := 444) (by decide +kernel) (by decide +kernel)
theorem t_445 : (Cond.constantLong R_X 232 32773) ∈ GL := tw (k := 445) (by decide +kernel) (by decide +kernel)
theorem t_446 : (Cond.methodLink R_X 150 y_X_isPredictor) ∈ GL := tw (k := 446) (by decide +kernel) (by decide +kernel)
theorem t_447 : (Cond.static y_X_isPredictor) ∈ GL := tw (k := 447) (by decide +kernel) (by decide +kernel)
theorem t_448 : (Cond.code y_X_isPredictor b_X_isPredictor 2 (some .boolean)) ∈ GL := tw (k := 448) (by decide +kernel) (by decide +kernel)
theorem t_449 : (Cond.methodLink R_X 153 y_Wk_follow) ∈ GL := tw (k := 449) (by decide +kernel) (by decide +kernel)
theorem t_450 : (Cond.instanceMethod y_Wk_follow) ∈ GL := tw (k := 450) (by decide +kernel) (by decide +kernel)
theorem t_451 : (Cond.selects R_Wk y_Wk_follow y_Wk_follow) ∈ GL := tw (k := 451) (by decide +kernel) (by decide +kernel)
theorem t_452 : (Cond.code y_Wk_follow b_Wk_follow 5 none) ∈ GL := tw (k := 452) (by decide +kernel) (by decide +kernel)
theorem t_453 : (Cond.methodLink R_Wk 26 y_St_hasHeader) ∈ GL := tw (k := 453) (by decide +kernel) (by decide +kernel)
theorem t_454 : (Cond.instanceMethod y_St_hasHeader) ∈ GL := tw (k := 454) (by decide +kernel) (by decide +kernel)
theorem t_455 : (Cond.selects R_St y_St_hasHeader y_St_hasHeader) ∈ GL := tw (k := 455) (by decide +kernel) (by decide +kernel)
theorem t_456 : (Cond.code y_St_hasHeader b_St_hasHeader 2 (some .boolean)) ∈ GL := tw (k := 456) (by decide +kernel) (by decide +kernel)
theorem t_457 : (Cond.methodLink R_St 32 y_St_shortAt) ∈ GL := tw (k := 457) (by decide +kernel) (by decide +kernel)
theorem t_458 : (Cond.instanceMethod y_St_shortAt) ∈ GL := tw (k := 458) (by decide +kernel) (by decide +kernel)
theorem t_459 : (Cond.selects R_St y_St_shortAt y_St_shortAt) ∈ GL := tw (k := 459) (by decide +kernel) (by decide +kernel)
theorem t_460 : (Cond.code y_St_shortAt b_St_shortAt 2 (some .int)) ∈ GL := tw (k := 460) (by decide +kernel) (by decide +kernel)
theorem t_461 : (Cond.methodLink R_Wk 32 y_St_longAt) ∈ GL := tw (k := 461) (by decide +kernel) (by decide +kernel)
theorem t_462 : (Cond.instanceMethod y_St_longAt) ∈ GL := tw (k := 462) (by decide +kernel) (by decide +kernel)
theorem t_463 : (Cond.selects R_St y_St_longAt y_St_longAt) ∈ GL := tw (k := 463) (by decide +kernel) (by decide +kernel)
theorem t_464 : (Cond.code y_St_longAt b_St_longAt 4 (some .long)) ∈ GL := tw (k := 464) (by decide +kernel) (by decide +kernel)
theorem t_465 : (Cond.constantLong R_St 36 65536) ∈ GL := tw (k := 465) (by decide +kernel) (by decide +kernel)
theorem t_466 : (Cond.methodLink R_Wk 36 y_Wk_stands) ∈ GL := tw (k := 466) (by decide +kernel) (by decide +kernel)
theorem t_467 : (Cond.static y_Wk_stands) ∈ GL := tw (k := 467) (by decide +kernel) (by decide +kernel)
theorem t_468 : (Cond.code y_Wk_stands b_Wk_stands 4 (some .boolean)) ∈ GL := tw (k := 468) (by decide +kernel) (by decide +kernel)
theorem t_469 : (Cond.constantLong R_Wk 48 2) ∈ GL := tw (k := 469) (by decide +kernel) (by decide +kernel)
theorem t_470 : (Cond.constantLong R_Wk 50 8) ∈ GL := tw (k := 470) (by decide +kernel) (by decide +kernel)
end
section
theorem t_471 : (Cond.methodLink R_Wk 52 y_St_holds) ∈ GL := tw (k := 471) (by decide +kernel) (by decide +kernel)
theorem t_472 : (Cond.methodLink R_Wk 44 y_St_shortAt) ∈ GL := tw (k := 472) (by decide +kernel) (by decide +kernel)
theorem t_473 : (Cond.methodLink R_Wk 40 y_Wk_wasMet) ∈ GL := tw (k := 473) (by decide +kernel) (by decide +kernel)
theorem t_475 : (Cond.instanceMethod y_Wk_wasMet) ∈ GL := tw (k := 475) (by decide +kernel) (by decide +kernel)
theorem t_476 : (Cond.code y_Wk_wasMet b_Wk_wasMet 4 (some .boolean)) ∈ GL := tw (k := 476) (by decide +kernel) (by decide +kernel)
theorem t_477 : (Cond.methodLink R_X 164 y_Ly_become) ∈ GL := tw (k := 477) (by decide +kernel) (by decide +kernel)
theorem t_478 : (Cond.instanceMethod y_Ly_become) ∈ GL := tw (k := 478) (by decide +kernel) (by decide +kernel)
theorem t_479 : (Cond.selects R_Ly y_Ly_become y_Ly_become) ∈ GL := tw (k := 479) (by decide +kernel) (by decide +kernel)
theorem t_480 : (Cond.code y_Ly_become b_Ly_become 4 none) ∈ GL := tw (k := 480) (by decide +kernel) (by decide +kernel)
theorem t_481 : (Cond.methodLink R_X 165 y_Ly_choose) ∈ GL := tw (k := 481) (by decide +kernel) (by decide +kernel)
theorem t_482 : (Cond.instanceMethod y_Ly_choose) ∈ GL := tw (k := 482) (by decide +kernel) (by decide +kernel)
theorem t_483 : (Cond.selects R_Ly y_Ly_choose y_Ly_choose) ∈ GL := tw (k := 483) (by decide +kernel) (by decide +kernel)
theorem t_484 : (Cond.code y_Ly_choose b_Ly_choose 4 none) ∈ GL := tw (k := 484) (by decide +kernel) (by decide +kernel)
theorem t_485 : (Cond.methodLink R_Ly 30 Lib.Math.max.name) ∈ GL := tw (k := 485) (by decide +kernel) (by decide +kernel)
theorem t_486 : (Cond.static Lib.Math.max.name) ∈ GL := tw (k := 486) (by decide +kernel) (by decide +kernel)
theorem t_487 : (Cond.code Lib.Math.max.name Lib.Math.max.code 2 (some .int)) ∈ GL := tw (k := 487) (by decide +kernel) (by decide +kernel)
theorem t_488 : (Cond.methodLink R_X 168 y_St_startAppending) ∈ GL := tw (k := 488) (by decide +kernel) (by decide +kernel)
theorem t_489 : (Cond.instanceMethod y_St_startAppending) ∈ GL := tw (k := 489) (by decide +kernel) (by decide +kernel)
theorem t_490 : (Cond.selects R_St y_St_startAppending y_St_startAppending) ∈ GL := tw (k := 490) (by decide +kernel) (by decide +kernel)
theorem t_491 : (Cond.code y_St_startAppending b_St_startAppending 1 none) ∈ GL := tw (k := 491) (by decide +kernel) (by decide +kernel)
theorem t_492 : (Cond.methodLink R_X 171 y_X_appendPage) ∈ GL := tw (k := 492) (by decide +kernel) (by decide +kernel)
theorem t_494 : (Cond.instanceMethod y_X_appendPage) ∈ GL := tw (k := 494) (by decide +kernel) (by decide +kernel)
theorem t_495 : (Cond.code y_X_appendPage b_X_appendPage 3 (some .int)) ∈ GL := tw (k := 495) (by decide +kernel) (by decide +kernel)
theorem t_496 : (Cond.methodLink R_X 234 y_Da_pack) ∈ GL := tw (k := 496) (by decide +kernel) (by decide +kernel)
theorem t_497 : (Cond.instanceMethod y_Da_pack) ∈ GL := tw (k := 497) (by decide +kernel) (by decide +kernel)
theorem t_498 : (Cond.selects R_Da y_Da_pack y_Da_pack) ∈ GL := tw (k := 498) (by decide +kernel) (by decide +kernel)
theorem t_499 : (Cond.code y_Da_pack b_Da_pack 8 none) ∈ GL := tw (k := 499) (by decide +kernel) (by decide +kernel)
theorem t_500 : (Cond.methodLink R_Da 15 y_J_fill) ∈ GL := tw (k := 500) (by decide +kernel) (by decide +kernel)
theorem t_501 : (Cond.methodLink R_Da 30 y_Pi_get) ∈ GL := tw (k := 501) (by decide +kernel) (by decide +kernel)
theorem t_502 : (Cond.methodLink R_Da 39 y_Pi_greatest) ∈ GL := tw (k := 502) (by decide +kernel) (by decide +kernel)
theorem t_503 : (Cond.methodLink R_Da 46 y_Ly_bytesARow) ∈ GL := tw (k := 503) (by decide +kernel) (by decide +kernel)
theorem t_504 : (Cond.instanceMethod y_Ly_bytesARow) ∈ GL := tw (k := 504) (by decide +kernel) (by decide +kernel)
theorem t_505 : (Cond.selects R_Ly y_Ly_bytesARow y_Ly_bytesARow) ∈ GL := tw (k := 505) (by decide +kernel) (by decide +kernel)
theorem t_506 : (Cond.code y_Ly_bytesARow b_Ly_bytesARow 1 (some .int)) ∈ GL := tw (k := 506) (by decide +kernel) (by decide +kernel)
theorem t_507 : (Cond.methodLink R_X 238 y_X_appendStrips) ∈ GL := tw (k := 507) (by decide +kernel) (by decide +kernel)
theorem t_509 : (Cond.instanceMethod y_X_appendStrips) ∈ GL := tw (k := 509) (by decide +kernel) (by decide +kernel)
theorem t_510 : (Cond.code y_X_appendStrips b_X_appendStrips 4 none) ∈ GL := tw (k := 510) (by decide +kernel) (by decide +kernel)
theorem t_511 : (Cond.methodLink R_X 197 y_Ly_strips) ∈ GL := tw (k := 511) (by decide +kernel) (by decide +kernel)
theorem t_512 : (Cond.instanceMethod y_Ly_strips) ∈ GL := tw (k := 512) (by decide +kernel) (by decide +kernel)
theorem t_513 : (Cond.selects R_Ly y_Ly_strips y_Ly_strips) ∈ GL := tw (k := 513) (by decide +kernel) (by decide +kernel)
theorem t_514 : (Cond.code y_Ly_strips b_Ly_strips 1 (some .int)) ∈ GL := tw (k := 514) (by decide +kernel) (by decide +kernel)
theorem t_515 : (Cond.methodLink R_X 251 y_Ly_firstByte) ∈ GL := tw (k := 515) (by decide +kernel) (by decide +kernel)
theorem t_516 : (Cond.instanceMethod y_Ly_firstByte) ∈ GL := tw (k := 516) (by decide +kernel) (by decide +kernel)
theorem t_517 : (Cond.selects R_Ly y_Ly_firstByte y_Ly_firstByte) ∈ GL := tw (k := 517) (by decide +kernel) (by decide +kernel)
theorem t_518 : (Cond.code y_Ly_firstByte b_Ly_firstByte 2 (some .int)) ∈ GL := tw (k := 518) (by decide +kernel) (by decide +kernel)
theorem t_519 : (Cond.methodLink R_Ly 39 y_Ly_firstRow) ∈ GL := tw (k := 519) (by decide +kernel) (by decide +kernel)
theorem t_520 : (Cond.instanceMethod y_Ly_firstRow) ∈ GL := tw (k := 520) (by decide +kernel) (by decide +kernel)
theorem t_521 : (Cond.selects R_Ly y_Ly_firstRow y_Ly_firstRow) ∈ GL := tw (k := 521) (by decide +kernel) (by decide +kernel)
theorem t_522 : (Cond.code y_Ly_firstRow b_Ly_firstRow 2 (some .int)) ∈ GL := tw (k := 522) (by decide +kernel) (by decide +kernel)
theorem t_523 : (Cond.methodLink R_Ly 36 Lib.Math.min.name) ∈ GL := tw (k := 523) (by decide +kernel) (by decide +kernel)
theorem t_524 : (Cond.static Lib.Math.min.name) ∈ GL := tw (k := 524) (by decide +kernel) (by decide +kernel)
theorem t_525 : (Cond.code Lib.Math.min.name Lib.Math.min.code 2 (some .int)) ∈ GL := tw (k := 525) (by decide +kernel) (by decide +kernel)
theorem t_526 : (Cond.methodLink R_Ly 43 y_Ly_bytesARow) ∈ GL := tw (k := 526) (by decide +kernel) (by decide +kernel)
theorem t_527 : (Cond.methodLink R_X 255 y_St_appendToEven) ∈ GL := tw (k := 527) (by decide +kernel) (by decide +kernel)
theorem t_528 : (Cond.instanceMethod y_St_appendToEven) ∈ GL := tw (k := 528) (by decide +kernel) (by decide +kernel)
theorem t_529 : (Cond.selects R_St y_St_appendToEven y_St_appendToEven) ∈ GL := tw (k := 529) (by decide +kernel) (by decide +kernel)
theorem t_530 : (Cond.code y_St_appendToEven b_St_appendToEven 1 none) ∈ GL := tw (k := 530) (by decide +kernel) (by decide +kernel)
theorem t_531 : (Cond.methodLink R_X 261 y_Da_appendPlain) ∈ GL := tw (k := 531) (by decide +kernel) (by decide +kernel)
theorem t_532 : (Cond.instanceMethod y_Da_appendPlain) ∈ GL := tw (k := 532) (by decide +kernel) (by decide +kernel)
theorem t_533 : (Cond.selects R_Da y_Da_appendPlain y_Da_appendPlain) ∈ GL := tw (k := 533) (by decide +kernel) (by decide +kernel)
theorem t_534 : (Cond.code y_Da_appendPlain b_Da_appendPlain 5 none) ∈ GL := tw (k := 534) (by decide +kernel) (by decide +kernel)
theorem t_535 : (Cond.methodLink R_Da 53 y_St_append) ∈ GL := tw (k := 535) (by decide +kernel) (by decide +kernel)
theorem t_536 : (Cond.constant R_X 265 32773) ∈ GL := tw (k := 536) (by decide +kernel) (by decide +kernel)
theorem t_537 : (Cond.methodLink R_X 266 y_Ly_firstRow) ∈ GL := tw (k := 537) (by decide +kernel) (by decide +kernel)
theorem t_538 : (Cond.methodLink R_X 269 y_X_appendRowsAsPackets) ∈ GL := tw (k := 538) (by decide +kernel) (by decide +kernel)
theorem t_540 : (Cond.instanceMethod y_X_appendRowsAsPackets) ∈ GL := tw (k := 540) (by decide +kernel) (by decide +kernel)
theorem t_541 : (Cond.code y_X_appendRowsAsPackets b_X_appendRowsAsPackets 5 none) ∈ GL := tw (k := 541) (by decide +kernel) (by decide +kernel)
theorem t_542 : (Cond.methodLink R_X 276 y_Ly_bytesARow) ∈ GL := tw (k := 542) (by decide +kernel) (by decide +kernel)
theorem t_543 : (Cond.methodLink R_X 280 y_Pk_encodeRow) ∈ GL := tw (k := 543) (by decide +kernel) (by decide +kernel)
theorem t_544 : (Cond.static y_Pk_encodeRow) ∈ GL := tw (k := 544) (by decide +kernel) (by decide +kernel)
theorem t_545 : (Cond.code y_Pk_encodeRow b_Pk_encodeRow 8 none) ∈ GL := tw (k := 545) (by decide +kernel) (by decide +kernel)
theorem t_546 : (Cond.methodLink R_Pk 7 y_Pk_threeEqualBegin) ∈ GL := tw (k := 546) (by decide +kernel) (by decide +kernel)
theorem t_547 : (Cond.static y_Pk_threeEqualBegin) ∈ GL := tw (k := 547) (by decide +kernel) (by decide +kernel)
theorem t_548 : (Cond.code y_Pk_threeEqualBegin b_Pk_threeEqualBegin 3 (some .boolean)) ∈ GL := tw (k := 548) (by decide +kernel) (by decide +kernel)
theorem t_549 : (Cond.methodLink R_Pk 13 y_Pk_equalBytes) ∈ GL := tw (k := 549) (by decide +kernel) (by decide +kernel)
theorem t_550 : (Cond.static y_Pk_equalBytes) ∈ GL := tw (k := 550) (by decide +kernel) (by decide +kernel)
theorem t_551 : (Cond.code y_Pk_equalBytes b_Pk_equalBytes 4 (some .int)) ∈ GL := tw (k := 551) (by decide +kernel) (by decide +kernel)
theorem t_552 : (Cond.methodLink R_Pk 17 y_St_append) ∈ GL := tw (k := 552) (by decide +kernel) (by decide +kernel)
theorem t_553 : (Cond.methodLink R_Pk 23 y_Pk_bytesUpToThreeEqual) ∈ GL := tw (k := 553) (by decide +kernel) (by decide +kernel)
theorem t_554 : (Cond.static y_Pk_bytesUpToThreeEqual) ∈ GL := tw (k := 554) (by decide +kernel) (by decide +kernel)
theorem t_555 : (Cond.code y_Pk_bytesUpToThreeEqual b_Pk_bytesUpToThreeEqual 4 (some .int)) ∈ GL := tw (k := 555) (by decide +kernel) (by decide +kernel)
theorem t_556 : (Cond.methodLink R_X 272 y_Ne_encode) ∈ GL := tw (k := 556) (by decide +kernel) (by decide +kernel)
theorem t_557 : (Cond.instanceMethod y_Ne_encode) ∈ GL := tw (k := 557) (by decide +kernel) (by decide +kernel)
theorem t_558 : (Cond.selects R_Ne y_Ne_encode y_Ne_encode) ∈ GL := tw (k := 558) (by decide +kernel) (by decide +kernel)
theorem t_559 : (Cond.code y_Ne_encode b_Ne_encode 9 none) ∈ GL := tw (k := 559) (by decide +kernel) (by decide +kernel)
theorem t_560 : (Cond.methodLink R_Ne 31 y_Ne_restartTable) ∈ GL := tw (k := 560) (by decide +kernel) (by decide +kernel)
theorem t_562 : (Cond.instanceMethod y_Ne_restartTable) ∈ GL := tw (k := 562) (by decide +kernel) (by decide +kernel)
theorem t_563 : (Cond.code y_Ne_restartTable b_Ne_restartTable 3 none) ∈ GL := tw (k := 563) (by decide +kernel) (by decide +kernel)
theorem t_564 : (Cond.methodLink R_Ne 45 y_Ne_emit) ∈ GL := tw (k := 564) (by decide +kernel) (by decide +kernel)
theorem t_566 : (Cond.instanceMethod y_Ne_emit) ∈ GL := tw (k := 566) (by decide +kernel) (by decide +kernel)
theorem t_567 : (Cond.code y_Ne_emit b_Ne_emit 4 none) ∈ GL := tw (k := 567) (by decide +kernel) (by decide +kernel)
theorem t_569 : (Cond.static y_X_codeWidth) ∈ GL := tw (k := 569) (by decide +kernel) (by decide +kernel)
theorem t_570 : (Cond.code y_X_codeWidth b_X_codeWidth 1 (some .int)) ∈ GL := tw (k := 570) (by decide +kernel) (by decide +kernel)
theorem t_571 : (Cond.methodLink R_Ne 53 y_St_append) ∈ GL := tw (k := 571) (by decide +kernel) (by decide +kernel)
theorem t_572 : (Cond.methodLink R_Ne 35 y_Da_nibble) ∈ GL := tw (k := 572) (by decide +kernel) (by decide +kernel)
theorem t_573 : (Cond.instanceMethod y_Da_nibble) ∈ GL := tw (k := 573) (by decide +kernel) (by decide +kernel)
theorem t_574 : (Cond.selects R_Da y_Da_nibble y_Da_nibble) ∈ GL := tw (k := 574) (by decide +kernel) (by decide +kernel)
theorem t_575 : (Cond.code y_Da_nibble b_Da_nibble 3 (some .int)) ∈ GL := tw (k := 575) (by decide +kernel) (by decide +kernel)
theorem t_576 : (Cond.methodLink R_Ne 41 y_Ne_child) ∈ GL := tw (k := 576) (by decide +kernel) (by decide +kernel)
theorem t_578 : (Cond.instanceMethod y_Ne_child) ∈ GL := tw (k := 578) (by decide +kernel) (by decide +kernel)
theorem t_579 : (Cond.code y_Ne_child b_Ne_child 5 (some .int)) ∈ GL := tw (k := 579) (by decide +kernel) (by decide +kernel)
theorem t_580 : (Cond.methodLink R_Ne 49 y_Ne_addRow) ∈ GL := tw (k := 580) (by decide +kernel) (by decide +kernel)
theorem t_582 : (Cond.instanceMethod y_Ne_addRow) ∈ GL := tw (k := 582) (by decide +kernel) (by decide +kernel)
theorem t_583 : (Cond.code y_Ne_addRow b_Ne_addRow 4 none) ∈ GL := tw (k := 583) (by decide +kernel) (by decide +kernel)
theorem t_584 : (Cond.methodLink R_X 241 y_X_appendStripNumbers) ∈ GL := tw (k := 584) (by decide +kernel) (by decide +kernel)
theorem t_586 : (Cond.instanceMethod y_X_appendStripNumbers) ∈ GL := tw (k := 586) (by decide +kernel) (by decide +kernel)
theorem t_587 : (Cond.code y_X_appendStripNumbers b_X_appendStripNumbers 5 (some .int)) ∈ GL := tw (k := 587) (by decide +kernel) (by decide +kernel)
theorem t_588 : (Cond.methodLink R_X 286 y_St_appendLong) ∈ GL := tw (k := 588) (by decide +kernel) (by decide +kernel)
theorem t_589 : (Cond.methodLink R_X 245 y_X_appendLongTexts) ∈ GL := tw (k := 589) (by decide +kernel) (by decide +kernel)
theorem t_591 : (Cond.instanceMethod y_X_appendLongTexts) ∈ GL := tw (k := 591) (by decide +kernel) (by decide +kernel)
theorem t_592 : (Cond.code y_X_appendLongTexts b_X_appendLongTexts 3 none) ∈ GL := tw (k := 592) (by decide +kernel) (by decide +kernel)
theorem t_593 : (Cond.methodLink R_X 290 y_Lb_inOrder) ∈ GL := tw (k := 593) (by decide +kernel) (by decide +kernel)
theorem t_594 : (Cond.instanceMethod y_Lb_inOrder) ∈ GL := tw (k := 594) (by decide +kernel) (by decide +kernel)
theorem t_595 : (Cond.selects R_Lb y_Lb_inOrder y_Lb_inOrder) ∈ GL := tw (k := 595) (by decide +kernel) (by decide +kernel)
theorem t_596 : (Cond.code y_Lb_inOrder b_Lb_inOrder 3 (some .int)) ∈ GL := tw (k := 596) (by decide +kernel) (by decide +kernel)
theorem t_597 : (Cond.methodLink R_X 293 y_Lb_bytesOf) ∈ GL := tw (k := 597) (by decide +kernel) (by decide +kernel)
theorem t_598 : (Cond.instanceMethod y_Lb_bytesOf) ∈ GL := tw (k := 598) (by decide +kernel) (by decide +kernel)
theorem t_599 : (Cond.selects R_Lb y_Lb_bytesOf y_Lb_bytesOf) ∈ GL := tw (k := 599) (by decide +kernel) (by decide +kernel)
theorem t_600 : (Cond.code y_Lb_bytesOf b_Lb_bytesOf 2 (some .int)) ∈ GL := tw (k := 600) (by decide +kernel) (by decide +kernel)
theorem t_601 : (Cond.methodLink R_X 296 y_Lb_appendText) ∈ GL := tw (k := 601) (by decide +kernel) (by decide +kernel)
theorem t_602 : (Cond.instanceMethod y_Lb_appendText) ∈ GL := tw (k := 602) (by decide +kernel) (by decide +kernel)
theorem t_603 : (Cond.selects R_Lb y_Lb_appendText y_Lb_appendText) ∈ GL := tw (k := 603) (by decide +kernel) (by decide +kernel)
theorem t_604 : (Cond.code y_Lb_appendText b_Lb_appendText 6 none) ∈ GL := tw (k := 604) (by decide +kernel) (by decide +kernel)
theorem t_605 : (Cond.methodLink R_Lb 29 y_St_append) ∈ GL := tw (k := 605) (by decide +kernel) (by decide +kernel)
theorem t_606 : (Cond.methodLink R_X 248 y_X_appendDirectory) ∈ GL := tw (k := 606) (by decide +kernel) (by decide +kernel)
theorem t_608 : (Cond.instanceMethod y_X_appendDirectory) ∈ GL := tw (k := 608) (by decide +kernel) (by decide +kernel)
theorem t_609 : (Cond.code y_X_appendDirectory b_X_appendDirectory 5 (some .int)) ∈ GL := tw (k := 609) (by decide +kernel) (by decide +kernel)
theorem t_610 : (Cond.methodLink R_X 299 y_St_appendShort) ∈ GL := tw (k := 610) (by decide +kernel) (by decide +kernel)
theorem t_611 : (Cond.methodLink R_X 302 y_X_appendShortEntry) ∈ GL := tw (k := 611) (by decide +kernel) (by decide +kernel)
theorem t_613 : (Cond.instanceMethod y_X_appendShortEntry) ∈ GL := tw (k := 613) (by decide +kernel) (by decide +kernel)
theorem t_614 : (Cond.code y_X_appendShortEntry b_X_appendShortEntry 3 none) ∈ GL := tw (k := 614) (by decide +kernel) (by decide +kernel)
theorem t_615 : (Cond.methodLink R_X 305 y_X_appendStripsEntry) ∈ GL := tw (k := 615) (by decide +kernel) (by decide +kernel)
theorem t_617 : (Cond.instanceMethod y_X_appendStripsEntry) ∈ GL := tw (k := 617) (by decide +kernel) (by decide +kernel)
theorem t_618 : (Cond.code y_X_appendStripsEntry b_X_appendStripsEntry 3 none) ∈ GL := tw (k := 618) (by decide +kernel) (by decide +kernel)
theorem t_619 : (Cond.methodLink R_X 314 y_X_appendTextEntry) ∈ GL := tw (k := 619) (by decide +kernel) (by decide +kernel)
theorem t_621 : (Cond.instanceMethod y_X_appendTextEntry) ∈ GL := tw (k := 621) (by decide +kernel) (by decide +kernel)
theorem t_622 : (Cond.code y_X_appendTextEntry b_X_appendTextEntry 3 none) ∈ GL := tw (k := 622) (by decide +kernel) (by decide +kernel)
theorem t_623 : (Cond.methodLink R_X 180 y_St_putLong) ∈ GL := tw (k := 623) (by decide +kernel) (by decide +kernel)
theorem t_624 : (Cond.instanceMethod y_St_putLong) ∈ GL := tw (k := 624) (by decide +kernel) (by decide +kernel)
theorem t_625 : (Cond.selects R_St y_St_putLong y_St_putLong) ∈ GL := tw (k := 625) (by decide +kernel) (by decide +kernel)
theorem t_626 : (Cond.code y_St_putLong b_St_putLong 4 none) ∈ GL := tw (k := 626) (by decide +kernel) (by decide +kernel)
theorem t_627 : (Cond.constantLong R_St 38 4) ∈ GL := tw (k := 627) (by decide +kernel) (by decide +kernel)
theorem t_628 : (Cond.methodLink R_St 40 y_St_holds) ∈ GL := tw (k := 628) (by decide +kernel) (by decide +kernel)
theorem t_629 : (Cond.methodLink R_X 184 y_St_keepAppended) ∈ GL := tw (k := 629) (by decide +kernel) (by decide +kernel)
theorem t_630 : (Cond.instanceMethod y_St_keepAppended) ∈ GL := tw (k := 630) (by decide +kernel) (by decide +kernel)
theorem t_631 : (Cond.selects R_St y_St_keepAppended y_St_keepAppended) ∈ GL := tw (k := 631) (by decide +kernel) (by decide +kernel)
theorem t_632 : (Cond.code y_St_keepAppended b_St_keepAppended 2 (some .int)) ∈ GL := tw (k := 632) (by decide +kernel) (by decide +kernel)
theorem t_633 : (Cond.methodLink RL 70 y_X_pages) ∈ GL := tw (k := 633) (by decide +kernel) (by decide +kernel)
theorem t_634 : (Cond.instanceMethod y_X_pages) ∈ GL := tw (k := 634) (by decide +kernel) (by decide +kernel)
theorem t_635 : (Cond.selects R_X y_X_pages y_X_pages) ∈ GL := tw (k := 635) (by decide +kernel) (by decide +kernel)
theorem t_636 : (Cond.code y_X_pages b_X_pages 1 (some .int)) ∈ GL := tw (k := 636) (by decide +kernel) (by decide +kernel)
theorem t_637 : (Cond.methodLink RL 74 y_X_sound) ∈ GL := tw (k := 637) (by decide +kernel) (by decide +kernel)
theorem t_638 : (Cond.instanceMethod y_X_sound) ∈ GL := tw (k := 638) (by decide +kernel) (by decide +kernel)
theorem t_639 : (Cond.selects R_X y_X_sound y_X_sound) ∈ GL := tw (k := 639) (by decide +kernel) (by decide +kernel)
theorem t_640 : (Cond.code y_X_sound b_X_sound 1 (some .boolean)) ∈ GL := tw (k := 640) (by decide +kernel) (by decide +kernel)
theorem t_641 : (Cond.methodLink RL 79 y_X_load) ∈ GL := tw (k := 641) (by decide +kernel) (by decide +kernel)
theorem t_642 : (Cond.instanceMethod y_X_load) ∈ GL := tw (k := 642) (by decide +kernel) (by decide +kernel)
theorem t_643 : (Cond.selects R_X y_X_load y_X_load) ∈ GL := tw (k := 643) (by decide +kernel) (by decide +kernel)
theorem t_644 : (Cond.code y_X_load b_X_load 3 (some .int)) ∈ GL := tw (k := 644) (by decide +kernel) (by decide +kernel)
theorem t_645 : (Cond.methodLink R_X 187 y_Wk_hasPage) ∈ GL := tw (k := 645) (by decide +kernel) (by decide +kernel)
theorem t_646 : (Cond.instanceMethod y_Wk_hasPage) ∈ GL := tw (k := 646) (by decide +kernel) (by decide +kernel)
theorem t_647 : (Cond.selects R_Wk y_Wk_hasPage y_Wk_hasPage) ∈ GL := tw (k := 647) (by decide +kernel) (by decide +kernel)
theorem t_648 : (Cond.code y_Wk_hasPage b_Wk_hasPage 2 (some .boolean)) ∈ GL := tw (k := 648) (by decide +kernel) (by decide +kernel)
theorem t_649 : (Cond.methodLink R_X 194 y_X_readLayout) ∈ GL := tw (k := 649) (by decide +kernel) (by decide +kernel)
theorem t_651 : (Cond.instanceMethod y_X_readLayout) ∈ GL := tw (k := 651) (by decide +kernel) (by decide +kernel)
theorem t_652 : (Cond.code y_X_readLayout b_X_readLayout 14 (some .boolean)) ∈ GL := tw (k := 652) (by decide +kernel) (by decide +kernel)
theorem t_653 : (Cond.methodLink R_X 327 y_X_tagsGoUp) ∈ GL := tw (k := 653) (by decide +kernel) (by decide +kernel)
theorem t_655 : (Cond.instanceMethod y_X_tagsGoUp) ∈ GL := tw (k := 655) (by decide +kernel) (by decide +kernel)
theorem t_656 : (Cond.code y_X_tagsGoUp b_X_tagsGoUp 6 (some .boolean)) ∈ GL := tw (k := 656) (by decide +kernel) (by decide +kernel)
theorem t_657 : (Cond.methodLink R_X 344 y_St_shortAt) ∈ GL := tw (k := 657) (by decide +kernel) (by decide +kernel)
theorem t_658 : (Cond.methodLink R_X 330 y_X_onlyNumber) ∈ GL := tw (k := 658) (by decide +kernel) (by decide +kernel)
theorem t_660 : (Cond.instanceMethod y_X_onlyNumber) ∈ GL := tw (k := 660) (by decide +kernel) (by decide +kernel)
theorem t_661 : (Cond.code y_X_onlyNumber b_X_onlyNumber 3 (some .long)) ∈ GL := tw (k := 661) (by decide +kernel) (by decide +kernel)
theorem t_662 : (Cond.methodLink R_X 320 y_En_find) ∈ GL := tw (k := 662) (by decide +kernel) (by decide +kernel)
theorem t_663 : (Cond.instanceMethod y_En_find) ∈ GL := tw (k := 663) (by decide +kernel) (by decide +kernel)
theorem t_664 : (Cond.selects R_En y_En_find y_En_find) ∈ GL := tw (k := 664) (by decide +kernel) (by decide +kernel)
theorem t_665 : (Cond.code y_En_find b_En_find 7 (some .boolean)) ∈ GL := tw (k := 665) (by decide +kernel) (by decide +kernel)
theorem t_666 : (Cond.methodLink R_En 9 y_St_shortAt) ∈ GL := tw (k := 666) (by decide +kernel) (by decide +kernel)
theorem t_667 : (Cond.methodLink R_En 15 y_En_read) ∈ GL := tw (k := 667) (by decide +kernel) (by decide +kernel)
theorem t_669 : (Cond.instanceMethod y_En_read) ∈ GL := tw (k := 669) (by decide +kernel) (by decide +kernel)
theorem t_670 : (Cond.code y_En_read b_En_read 5 none) ∈ GL := tw (k := 670) (by decide +kernel) (by decide +kernel)
theorem t_671 : (Cond.methodLink R_En 25 y_St_longAt) ∈ GL := tw (k := 671) (by decide +kernel) (by decide +kernel)
theorem t_672 : (Cond.methodLink R_En 33 y_En_valueBytes) ∈ GL := tw (k := 672) (by decide +kernel) (by decide +kernel)
theorem t_674 : (Cond.instanceMethod y_En_valueBytes) ∈ GL := tw (k := 674) (by decide +kernel) (by decide +kernel)
theorem t_675 : (Cond.code y_En_valueBytes b_En_valueBytes 1 (some .int)) ∈ GL := tw (k := 675) (by decide +kernel) (by decide +kernel)
theorem t_676 : (Cond.constantLong R_En 37 4) ∈ GL := tw (k := 676) (by decide +kernel) (by decide +kernel)
theorem t_677 : (Cond.methodLink R_En 42 y_St_holds) ∈ GL := tw (k := 677) (by decide +kernel) (by decide +kernel)
theorem t_678 : (Cond.methodLink R_X 347 y_En_isNumbers) ∈ GL := tw (k := 678) (by decide +kernel) (by decide +kernel)
theorem t_679 : (Cond.instanceMethod y_En_isNumbers) ∈ GL := tw (k := 679) (by decide +kernel) (by decide +kernel)
theorem t_680 : (Cond.selects R_En y_En_isNumbers y_En_isNumbers) ∈ GL := tw (k := 680) (by decide +kernel) (by decide +kernel)
theorem t_681 : (Cond.code y_En_isNumbers b_En_isNumbers 2 (some .boolean)) ∈ GL := tw (k := 681) (by decide +kernel) (by decide +kernel)
theorem t_682 : (Cond.constantLong R_X 216 (-1)) ∈ GL := tw (k := 682) (by decide +kernel) (by decide +kernel)
theorem t_683 : (Cond.methodLink R_X 218 y_En_value) ∈ GL := tw (k := 683) (by decide +kernel) (by decide +kernel)
theorem t_684 : (Cond.instanceMethod y_En_value) ∈ GL := tw (k := 684) (by decide +kernel) (by decide +kernel)
theorem t_685 : (Cond.selects R_En y_En_value y_En_value) ∈ GL := tw (k := 685) (by decide +kernel) (by decide +kernel)
theorem t_686 : (Cond.code y_En_value b_En_value 4 (some .long)) ∈ GL := tw (k := 686) (by decide +kernel) (by decide +kernel)
theorem t_687 : (Cond.constantLong R_En 54 (-1)) ∈ GL := tw (k := 687) (by decide +kernel) (by decide +kernel)
theorem t_688 : (Cond.methodLink R_X 334 Lib.MathLoose.min_long.x) ∈ GL := tw (k := 688) (by decide +kernel) (by decide +kernel)
theorem t_689 : (Cond.static Lib.MathLoose.min_long.x) ∈ GL := tw (k := 689) (by decide +kernel) (by decide +kernel)
theorem t_690 : (Cond.code Lib.MathLoose.min_long.x Lib.MathLoose.min_long.code 4 (some .long)) ∈ GL := tw (k := 690) (by decide +kernel) (by decide +kernel)
end
section
theorem t_691 : (Cond.methodLink R_X 340 y_X_findStripNumbers) ∈ GL := tw (k := 691) (by decide +kernel) (by decide +kernel)
theorem t_693 : (Cond.instanceMethod y_X_findStripNumbers) ∈ GL := tw (k := 693) (by decide +kernel) (by decide +kernel)
theorem t_694 : (Cond.code y_X_findStripNumbers b_X_findStripNumbers 4 (some .boolean)) ∈ GL := tw (k := 694) (by decide +kernel) (by decide +kernel)
theorem t_695 : (Cond.methodLink R_X 200 y_X_decodeStrip) ∈ GL := tw (k := 695) (by decide +kernel) (by decide +kernel)
theorem t_697 : (Cond.instanceMethod y_X_decodeStrip) ∈ GL := tw (k := 697) (by decide +kernel) (by decide +kernel)
theorem t_698 : (Cond.code y_X_decodeStrip b_X_decodeStrip 10 (some .boolean)) ∈ GL := tw (k := 698) (by decide +kernel) (by decide +kernel)
theorem t_699 : (Cond.methodLink R_X 350 y_Da_takePlain) ∈ GL := tw (k := 699) (by decide +kernel) (by decide +kernel)
theorem t_700 : (Cond.instanceMethod y_Da_takePlain) ∈ GL := tw (k := 700) (by decide +kernel) (by decide +kernel)
theorem t_701 : (Cond.selects R_Da y_Da_takePlain y_Da_takePlain) ∈ GL := tw (k := 701) (by decide +kernel) (by decide +kernel)
theorem t_702 : (Cond.code y_Da_takePlain b_Da_takePlain 7 (some .boolean)) ∈ GL := tw (k := 702) (by decide +kernel) (by decide +kernel)
theorem t_703 : (Cond.methodLink R_X 354 y_Pk_decode) ∈ GL := tw (k := 703) (by decide +kernel) (by decide +kernel)
theorem t_704 : (Cond.static y_Pk_decode) ∈ GL := tw (k := 704) (by decide +kernel) (by decide +kernel)
theorem t_705 : (Cond.code y_Pk_decode b_Pk_decode 13 (some .boolean)) ∈ GL := tw (k := 705) (by decide +kernel) (by decide +kernel)
theorem t_706 : (Cond.methodLink R_X 358 y_Nd_decode) ∈ GL := tw (k := 706) (by decide +kernel) (by decide +kernel)
theorem t_707 : (Cond.instanceMethod y_Nd_decode) ∈ GL := tw (k := 707) (by decide +kernel) (by decide +kernel)
theorem t_708 : (Cond.selects R_Nd y_Nd_decode y_Nd_decode) ∈ GL := tw (k := 708) (by decide +kernel) (by decide +kernel)
theorem t_709 : (Cond.code y_Nd_decode b_Nd_decode 13 (some .boolean)) ∈ GL := tw (k := 709) (by decide +kernel) (by decide +kernel)
theorem t_711 : (Cond.methodLink R_Nd 26 y_Nd_readBits) ∈ GL := tw (k := 711) (by decide +kernel) (by decide +kernel)
theorem t_712 : (Cond.static y_Nd_readBits) ∈ GL := tw (k := 712) (by decide +kernel) (by decide +kernel)
theorem t_713 : (Cond.code y_Nd_readBits b_Nd_readBits 5 (some .int)) ∈ GL := tw (k := 713) (by decide +kernel) (by decide +kernel)
theorem t_714 : (Cond.methodLink R_Nd 30 y_Nd_rowSize) ∈ GL := tw (k := 714) (by decide +kernel) (by decide +kernel)
theorem t_716 : (Cond.instanceMethod y_Nd_rowSize) ∈ GL := tw (k := 716) (by decide +kernel) (by decide +kernel)
theorem t_717 : (Cond.code y_Nd_rowSize b_Nd_rowSize 4 (some .int)) ∈ GL := tw (k := 717) (by decide +kernel) (by decide +kernel)
theorem t_718 : (Cond.methodLink R_Nd 33 y_Nd_copyRow) ∈ GL := tw (k := 718) (by decide +kernel) (by decide +kernel)
theorem t_720 : (Cond.instanceMethod y_Nd_copyRow) ∈ GL := tw (k := 720) (by decide +kernel) (by decide +kernel)
theorem t_721 : (Cond.code y_Nd_copyRow b_Nd_copyRow 7 none) ∈ GL := tw (k := 721) (by decide +kernel) (by decide +kernel)
theorem t_722 : (Cond.methodLink R_Nd 46 y_Da_putNibble) ∈ GL := tw (k := 722) (by decide +kernel) (by decide +kernel)
theorem t_723 : (Cond.instanceMethod y_Da_putNibble) ∈ GL := tw (k := 723) (by decide +kernel) (by decide +kernel)
theorem t_724 : (Cond.selects R_Da y_Da_putNibble y_Da_putNibble) ∈ GL := tw (k := 724) (by decide +kernel) (by decide +kernel)
theorem t_725 : (Cond.code y_Da_putNibble b_Da_putNibble 4 none) ∈ GL := tw (k := 725) (by decide +kernel) (by decide +kernel)
theorem t_726 : (Cond.methodLink R_Nd 51 y_Da_nibble) ∈ GL := tw (k := 726) (by decide +kernel) (by decide +kernel)
theorem t_727 : (Cond.methodLink R_Nd 37 y_Nd_noteCode) ∈ GL := tw (k := 727) (by decide +kernel) (by decide +kernel)
theorem t_729 : (Cond.instanceMethod y_Nd_noteCode) ∈ GL := tw (k := 729) (by decide +kernel) (by decide +kernel)
theorem t_730 : (Cond.code y_Nd_noteCode b_Nd_noteCode 3 none) ∈ GL := tw (k := 730) (by decide +kernel) (by decide +kernel)
theorem t_731 : (Cond.methodLink R_X 206 y_Da_unpack) ∈ GL := tw (k := 731) (by decide +kernel) (by decide +kernel)
theorem t_732 : (Cond.instanceMethod y_Da_unpack) ∈ GL := tw (k := 732) (by decide +kernel) (by decide +kernel)
theorem t_733 : (Cond.selects R_Da y_Da_unpack y_Da_unpack) ∈ GL := tw (k := 733) (by decide +kernel) (by decide +kernel)
theorem t_734 : (Cond.code y_Da_unpack b_Da_unpack 8 none) ∈ GL := tw (k := 734) (by decide +kernel) (by decide +kernel)
theorem t_735 : (Cond.methodLink R_Da 49 y_Pi_put) ∈ GL := tw (k := 735) (by decide +kernel) (by decide +kernel)
theorem t_736 : (Cond.methodLink RL 83 y_X_field) ∈ GL := tw (k := 736) (by decide +kernel) (by decide +kernel)
theorem t_737 : (Cond.instanceMethod y_X_field) ∈ GL := tw (k := 737) (by decide +kernel) (by decide +kernel)
theorem t_738 : (Cond.selects R_X y_X_field y_X_field) ∈ GL := tw (k := 738) (by decide +kernel) (by decide +kernel)
theorem t_739 : (Cond.code y_X_field b_X_field 4 (some .long)) ∈ GL := tw (k := 739) (by decide +kernel) (by decide +kernel)
theorem t_740 : (Cond.methodLink R_X 210 y_X_findSoundEntry) ∈ GL := tw (k := 740) (by decide +kernel) (by decide +kernel)
theorem t_742 : (Cond.instanceMethod y_X_findSoundEntry) ∈ GL := tw (k := 742) (by decide +kernel) (by decide +kernel)
theorem t_743 : (Cond.code y_X_findSoundEntry b_X_findSoundEntry 3 (some .boolean)) ∈ GL := tw (k := 743) (by decide +kernel) (by decide +kernel)
theorem t_744 : (Cond.methodLink RL 88 y_X_fieldCount) ∈ GL := tw (k := 744) (by decide +kernel) (by decide +kernel)
theorem t_745 : (Cond.instanceMethod y_X_fieldCount) ∈ GL := tw (k := 745) (by decide +kernel) (by decide +kernel)
theorem t_746 : (Cond.selects R_X y_X_fieldCount y_X_fieldCount) ∈ GL := tw (k := 746) (by decide +kernel) (by decide +kernel)
theorem t_747 : (Cond.code y_X_fieldCount b_X_fieldCount 3 (some .long)) ∈ GL := tw (k := 747) (by decide +kernel) (by decide +kernel)
theorem t_748 : (Cond.classLink RL 10 R_M) ∈ GL := tw (k := 748) (by decide +kernel) (by decide +kernel)
theorem t_749 : (Cond.instantiable R_M 30) ∈ GL := tw (k := 749) (by decide +kernel) (by decide +kernel)
theorem t_750 : (Cond.methodLink RL 12 y_M_init) ∈ GL := tw (k := 750) (by decide +kernel) (by decide +kernel)
theorem t_751 : (Cond.instanceMethod y_M_init) ∈ GL := tw (k := 751) (by decide +kernel) (by decide +kernel)
theorem t_752 : (Cond.code y_M_init b_M_init 1 none) ∈ GL := tw (k := 752) (by decide +kernel) (by decide +kernel)
theorem t_753 : (Cond.methodLink R_M 1 objectInit) ∈ GL := tw (k := 753) (by decide +kernel) (by decide +kernel)
theorem t_754 : (Cond.methodLink R_M 59 y_M_clear) ∈ GL := tw (k := 754) (by decide +kernel) (by decide +kernel)
theorem t_755 : (Cond.instanceMethod y_M_clear) ∈ GL := tw (k := 755) (by decide +kernel) (by decide +kernel)
theorem t_756 : (Cond.selects R_M y_M_clear y_M_clear) ∈ GL := tw (k := 756) (by decide +kernel) (by decide +kernel)
theorem t_757 : (Cond.code y_M_clear b_M_clear 3 none) ∈ GL := tw (k := 757) (by decide +kernel) (by decide +kernel)
theorem t_758 : (Cond.fieldLink R_M 7 R_M "file" "[I") ∈ GL := tw (k := 758) (by decide +kernel) (by decide +kernel)
theorem t_759 : (Cond.fieldLink R_M 63 R_M "size" "I") ∈ GL := tw (k := 759) (by decide +kernel) (by decide +kernel)
theorem t_760 : (Cond.fieldLink R_M 121 R_M "end" "I") ∈ GL := tw (k := 760) (by decide +kernel) (by decide +kernel)
theorem t_761 : (Cond.fieldLink R_M 13 R_M "w" "I") ∈ GL := tw (k := 761) (by decide +kernel) (by decide +kernel)
theorem t_762 : (Cond.fieldLink R_M 17 R_M "h" "I") ∈ GL := tw (k := 762) (by decide +kernel) (by decide +kernel)
theorem t_763 : (Cond.fieldLink R_M 20 R_M "d" "I") ∈ GL := tw (k := 763) (by decide +kernel) (by decide +kernel)
theorem t_764 : (Cond.fieldLink R_M 23 R_M "samples" "[I") ∈ GL := tw (k := 764) (by decide +kernel) (by decide +kernel)
theorem t_765 : (Cond.fieldLink R_M 69 R_M "labels" "I") ∈ GL := tw (k := 765) (by decide +kernel) (by decide +kernel)
theorem t_766 : (Cond.fieldLink R_M 26 R_M "tags" "[I") ∈ GL := tw (k := 766) (by decide +kernel) (by decide +kernel)
theorem t_767 : (Cond.fieldLink R_M 29 R_M "lengths" "[I") ∈ GL := tw (k := 767) (by decide +kernel) (by decide +kernel)
theorem t_768 : (Cond.fieldLink R_M 32 R_M "letters" "[I") ∈ GL := tw (k := 768) (by decide +kernel) (by decide +kernel)
theorem t_769 : (Cond.fieldLink R_M 86 R_M "met" "I") ∈ GL := tw (k := 769) (by decide +kernel) (by decide +kernel)
theorem t_770 : (Cond.fieldLink R_M 89 R_M "whole" "Z") ∈ GL := tw (k := 770) (by decide +kernel) (by decide +kernel)
theorem t_771 : (Cond.fieldLink R_M 35 R_M "dirs" "[I") ∈ GL := tw (k := 771) (by decide +kernel) (by decide +kernel)
theorem t_772 : (Cond.fieldLink R_M 93 R_M "last" "I") ∈ GL := tw (k := 772) (by decide +kernel) (by decide +kernel)
theorem t_773 : (Cond.fieldLink R_M 38 R_M "data" "[I") ∈ GL := tw (k := 773) (by decide +kernel) (by decide +kernel)
theorem t_774 : (Cond.fieldLink R_M 41 R_M "nibs" "[I") ∈ GL := tw (k := 774) (by decide +kernel) (by decide +kernel)
theorem t_775 : (Cond.fieldLink R_M 44 R_M "start" "[I") ∈ GL := tw (k := 775) (by decide +kernel) (by decide +kernel)
theorem t_776 : (Cond.fieldLink R_M 47 R_M "many" "[I") ∈ GL := tw (k := 776) (by decide +kernel) (by decide +kernel)
theorem t_777 : (Cond.fieldLink R_M 144 R_M "first" "I") ∈ GL := tw (k := 777) (by decide +kernel) (by decide +kernel)
theorem t_778 : (Cond.fieldLink R_M 141 R_M "bits" "I") ∈ GL := tw (k := 778) (by decide +kernel) (by decide +kernel)
theorem t_779 : (Cond.fieldLink R_M 50 R_M "places" "[I") ∈ GL := tw (k := 779) (by decide +kernel) (by decide +kernel)
theorem t_780 : (Cond.fieldLink R_M 53 R_M "sizes" "[I") ∈ GL := tw (k := 780) (by decide +kernel) (by decide +kernel)
theorem t_781 : (Cond.fieldLink R_M 220 R_M "cols" "I") ∈ GL := tw (k := 781) (by decide +kernel) (by decide +kernel)
theorem t_782 : (Cond.fieldLink R_M 201 R_M "rows" "I") ∈ GL := tw (k := 782) (by decide +kernel) (by decide +kernel)
theorem t_783 : (Cond.fieldLink R_M 223 R_M "depth" "I") ∈ GL := tw (k := 783) (by decide +kernel) (by decide +kernel)
theorem t_784 : (Cond.fieldLink R_M 226 R_M "method" "I") ∈ GL := tw (k := 784) (by decide +kernel) (by decide +kernel)
theorem t_785 : (Cond.fieldLink R_M 204 R_M "each" "I") ∈ GL := tw (k := 785) (by decide +kernel) (by decide +kernel)
theorem t_786 : (Cond.fieldLink R_M 229 R_M "predictor" "I") ∈ GL := tw (k := 786) (by decide +kernel) (by decide +kernel)
theorem t_787 : (Cond.fieldLink R_M 56 R_M "next" "[I") ∈ GL := tw (k := 787) (by decide +kernel) (by decide +kernel)
theorem t_788 : (Cond.lays R_M R_M "file" "[I") ∈ GL := tw (k := 788) (by decide +kernel) (by decide +kernel)
theorem t_790 : (Cond.lays R_M R_M "size" "I") ∈ GL := tw (k := 790) (by decide +kernel) (by decide +kernel)
theorem t_792 : (Cond.lays R_M R_M "end" "I") ∈ GL := tw (k := 792) (by decide +kernel) (by decide +kernel)
theorem t_794 : (Cond.lays R_M R_M "w" "I") ∈ GL := tw (k := 794) (by decide +kernel) (by decide +kernel)
theorem t_796 : (Cond.lays R_M R_M "h" "I") ∈ GL := tw (k := 796) (by decide +kernel) (by decide +kernel)
theorem t_798 : (Cond.lays R_M R_M "d" "I") ∈ GL := tw (k := 798) (by decide +kernel) (by decide +kernel)
theorem t_800 : (Cond.lays R_M R_M "samples" "[I") ∈ GL := tw (k := 800) (by decide +kernel) (by decide +kernel)
theorem t_802 : (Cond.lays R_M R_M "labels" "I") ∈ GL := tw (k := 802) (by decide +kernel) (by decide +kernel)
theorem t_804 : (Cond.lays R_M R_M "tags" "[I") ∈ GL := tw (k := 804) (by decide +kernel) (by decide +kernel)
theorem t_806 : (Cond.lays R_M R_M "lengths" "[I") ∈ GL := tw (k := 806) (by decide +kernel) (by decide +kernel)
theorem t_808 : (Cond.lays R_M R_M "letters" "[I") ∈ GL := tw (k := 808) (by decide +kernel) (by decide +kernel)
theorem t_810 : (Cond.lays R_M R_M "met" "I") ∈ GL := tw (k := 810) (by decide +kernel) (by decide +kernel)
theorem t_812 : (Cond.lays R_M R_M "whole" "Z") ∈ GL := tw (k := 812) (by decide +kernel) (by decide +kernel)
theorem t_814 : (Cond.lays R_M R_M "dirs" "[I") ∈ GL := tw (k := 814) (by decide +kernel) (by decide +kernel)
theorem t_816 : (Cond.lays R_M R_M "last" "I") ∈ GL := tw (k := 816) (by decide +kernel) (by decide +kernel)
theorem t_818 : (Cond.lays R_M R_M "data" "[I") ∈ GL := tw (k := 818) (by decide +kernel) (by decide +kernel)
theorem t_820 : (Cond.lays R_M R_M "nibs" "[I") ∈ GL := tw (k := 820) (by decide +kernel) (by decide +kernel)
theorem t_822 : (Cond.lays R_M R_M "start" "[I") ∈ GL := tw (k := 822) (by decide +kernel) (by decide +kernel)
theorem t_824 : (Cond.lays R_M R_M "many" "[I") ∈ GL := tw (k := 824) (by decide +kernel) (by decide +kernel)
theorem t_826 : (Cond.lays R_M R_M "first" "I") ∈ GL := tw (k := 826) (by decide +kernel) (by decide +kernel)
theorem t_828 : (Cond.lays R_M R_M "bits" "I") ∈ GL := tw (k := 828) (by decide +kernel) (by decide +kernel)
theorem t_830 : (Cond.lays R_M R_M "places" "[I") ∈ GL := tw (k := 830) (by decide +kernel) (by decide +kernel)
theorem t_832 : (Cond.lays R_M R_M "sizes" "[I") ∈ GL := tw (k := 832) (by decide +kernel) (by decide +kernel)
theorem t_834 : (Cond.lays R_M R_M "cols" "I") ∈ GL := tw (k := 834) (by decide +kernel) (by decide +kernel)
theorem t_836 : (Cond.lays R_M R_M "rows" "I") ∈ GL := tw (k := 836) (by decide +kernel) (by decide +kernel)
theorem t_838 : (Cond.lays R_M R_M "depth" "I") ∈ GL := tw (k := 838) (by decide +kernel) (by decide +kernel)
theorem t_840 : (Cond.lays R_M R_M "method" "I") ∈ GL := tw (k := 840) (by decide +kernel) (by decide +kernel)
theorem t_842 : (Cond.lays R_M R_M "each" "I") ∈ GL := tw (k := 842) (by decide +kernel) (by decide +kernel)
theorem t_844 : (Cond.lays R_M R_M "predictor" "I") ∈ GL := tw (k := 844) (by decide +kernel) (by decide +kernel)
theorem t_846 : (Cond.lays R_M R_M "next" "[I") ∈ GL := tw (k := 846) (by decide +kernel) (by decide +kernel)
theorem t_849 : (Cond.methodLink RL 17 y_M_clear) ∈ GL := tw (k := 849) (by decide +kernel) (by decide +kernel)
theorem t_850 : (Cond.methodLink RL 22 y_M_length) ∈ GL := tw (k := 850) (by decide +kernel) (by decide +kernel)
theorem t_851 : (Cond.instanceMethod y_M_length) ∈ GL := tw (k := 851) (by decide +kernel) (by decide +kernel)
theorem t_852 : (Cond.selects R_M y_M_length y_M_length) ∈ GL := tw (k := 852) (by decide +kernel) (by decide +kernel)
theorem t_853 : (Cond.code y_M_length b_M_length 1 (some .int)) ∈ GL := tw (k := 853) (by decide +kernel) (by decide +kernel)
theorem t_854 : (Cond.methodLink RL 27 y_M_byteAt) ∈ GL := tw (k := 854) (by decide +kernel) (by decide +kernel)
theorem t_855 : (Cond.instanceMethod y_M_byteAt) ∈ GL := tw (k := 855) (by decide +kernel) (by decide +kernel)
theorem t_856 : (Cond.selects R_M y_M_byteAt y_M_byteAt) ∈ GL := tw (k := 856) (by decide +kernel) (by decide +kernel)
theorem t_857 : (Cond.code y_M_byteAt b_M_byteAt 2 (some .int)) ∈ GL := tw (k := 857) (by decide +kernel) (by decide +kernel)
theorem t_858 : (Cond.methodLink RL 32 y_M_poke) ∈ GL := tw (k := 858) (by decide +kernel) (by decide +kernel)
theorem t_859 : (Cond.instanceMethod y_M_poke) ∈ GL := tw (k := 859) (by decide +kernel) (by decide +kernel)
theorem t_860 : (Cond.selects R_M y_M_poke y_M_poke) ∈ GL := tw (k := 860) (by decide +kernel) (by decide +kernel)
theorem t_861 : (Cond.code y_M_poke b_M_poke 3 (some .boolean)) ∈ GL := tw (k := 861) (by decide +kernel) (by decide +kernel)
theorem t_862 : (Cond.methodLink RL 37 y_M_begin) ∈ GL := tw (k := 862) (by decide +kernel) (by decide +kernel)
theorem t_863 : (Cond.instanceMethod y_M_begin) ∈ GL := tw (k := 863) (by decide +kernel) (by decide +kernel)
theorem t_864 : (Cond.selects R_M y_M_begin y_M_begin) ∈ GL := tw (k := 864) (by decide +kernel) (by decide +kernel)
theorem t_865 : (Cond.code y_M_begin b_M_begin 5 (some .boolean)) ∈ GL := tw (k := 865) (by decide +kernel) (by decide +kernel)
theorem t_866 : (Cond.methodLink RL 41 y_M_shape) ∈ GL := tw (k := 866) (by decide +kernel) (by decide +kernel)
theorem t_867 : (Cond.instanceMethod y_M_shape) ∈ GL := tw (k := 867) (by decide +kernel) (by decide +kernel)
theorem t_868 : (Cond.selects R_M y_M_shape y_M_shape) ∈ GL := tw (k := 868) (by decide +kernel) (by decide +kernel)
theorem t_869 : (Cond.code y_M_shape b_M_shape 1 (some .int)) ∈ GL := tw (k := 869) (by decide +kernel) (by decide +kernel)
theorem t_870 : (Cond.constant R_M 66 1000000) ∈ GL := tw (k := 870) (by decide +kernel) (by decide +kernel)
theorem t_871 : (Cond.methodLink RL 46 y_M_fill) ∈ GL := tw (k := 871) (by decide +kernel) (by decide +kernel)
theorem t_872 : (Cond.instanceMethod y_M_fill) ∈ GL := tw (k := 872) (by decide +kernel) (by decide +kernel)
theorem t_873 : (Cond.selects R_M y_M_fill y_M_fill) ∈ GL := tw (k := 873) (by decide +kernel) (by decide +kernel)
theorem t_874 : (Cond.code y_M_fill b_M_fill 8 (some .boolean)) ∈ GL := tw (k := 874) (by decide +kernel) (by decide +kernel)
theorem t_875 : (Cond.methodLink RL 51 y_M_wash) ∈ GL := tw (k := 875) (by decide +kernel) (by decide +kernel)
theorem t_876 : (Cond.instanceMethod y_M_wash) ∈ GL := tw (k := 876) (by decide +kernel) (by decide +kernel)
theorem t_877 : (Cond.selects R_M y_M_wash y_M_wash) ∈ GL := tw (k := 877) (by decide +kernel) (by decide +kernel)
theorem t_878 : (Cond.code y_M_wash b_M_wash 10 none) ∈ GL := tw (k := 878) (by decide +kernel) (by decide +kernel)
theorem t_879 : (Cond.methodLink RL 56 y_M_sample) ∈ GL := tw (k := 879) (by decide +kernel) (by decide +kernel)
theorem t_880 : (Cond.instanceMethod y_M_sample) ∈ GL := tw (k := 880) (by decide +kernel) (by decide +kernel)
theorem t_881 : (Cond.selects R_M y_M_sample y_M_sample) ∈ GL := tw (k := 881) (by decide +kernel) (by decide +kernel)
theorem t_882 : (Cond.code y_M_sample b_M_sample 3 (some .int)) ∈ GL := tw (k := 882) (by decide +kernel) (by decide +kernel)
theorem t_883 : (Cond.methodLink RL 60 y_M_label) ∈ GL := tw (k := 883) (by decide +kernel) (by decide +kernel)
theorem t_884 : (Cond.instanceMethod y_M_label) ∈ GL := tw (k := 884) (by decide +kernel) (by decide +kernel)
theorem t_885 : (Cond.selects R_M y_M_label y_M_label) ∈ GL := tw (k := 885) (by decide +kernel) (by decide +kernel)
theorem t_886 : (Cond.code y_M_label b_M_label 4 (some .boolean)) ∈ GL := tw (k := 886) (by decide +kernel) (by decide +kernel)
theorem t_887 : (Cond.constant R_M 67 32768) ∈ GL := tw (k := 887) (by decide +kernel) (by decide +kernel)
theorem t_888 : (Cond.constant R_M 68 65535) ∈ GL := tw (k := 888) (by decide +kernel) (by decide +kernel)
theorem t_889 : (Cond.methodLink RL 64 y_M_unlabel) ∈ GL := tw (k := 889) (by decide +kernel) (by decide +kernel)
theorem t_890 : (Cond.instanceMethod y_M_unlabel) ∈ GL := tw (k := 890) (by decide +kernel) (by decide +kernel)
theorem t_891 : (Cond.selects R_M y_M_unlabel y_M_unlabel) ∈ GL := tw (k := 891) (by decide +kernel) (by decide +kernel)
theorem t_892 : (Cond.code y_M_unlabel b_M_unlabel 2 (some .int)) ∈ GL := tw (k := 892) (by decide +kernel) (by decide +kernel)
theorem t_893 : (Cond.methodLink RL 73 y_M_pages) ∈ GL := tw (k := 893) (by decide +kernel) (by decide +kernel)
theorem t_894 : (Cond.instanceMethod y_M_pages) ∈ GL := tw (k := 894) (by decide +kernel) (by decide +kernel)
theorem t_895 : (Cond.selects R_M y_M_pages y_M_pages) ∈ GL := tw (k := 895) (by decide +kernel) (by decide +kernel)
theorem t_896 : (Cond.code y_M_pages b_M_pages 1 (some .int)) ∈ GL := tw (k := 896) (by decide +kernel) (by decide +kernel)
theorem t_897 : (Cond.methodLink R_M 102 y_M_walk) ∈ GL := tw (k := 897) (by decide +kernel) (by decide +kernel)
theorem t_899 : (Cond.instanceMethod y_M_walk) ∈ GL := tw (k := 899) (by decide +kernel) (by decide +kernel)
theorem t_900 : (Cond.code y_M_walk b_M_walk 6 none) ∈ GL := tw (k := 900) (by decide +kernel) (by decide +kernel)
theorem t_901 : (Cond.methodLink R_M 78 y_M_read) ∈ GL := tw (k := 901) (by decide +kernel) (by decide +kernel)
theorem t_903 : (Cond.instanceMethod y_M_read) ∈ GL := tw (k := 903) (by decide +kernel) (by decide +kernel)
theorem t_904 : (Cond.code y_M_read b_M_read 6 (some .long)) ∈ GL := tw (k := 904) (by decide +kernel) (by decide +kernel)
theorem t_905 : (Cond.constantLong R_M 72 256) ∈ GL := tw (k := 905) (by decide +kernel) (by decide +kernel)
theorem t_906 : (Cond.constantLong R_M 96 42) ∈ GL := tw (k := 906) (by decide +kernel) (by decide +kernel)
theorem t_907 : (Cond.methodLink R_M 98 y_M_stands) ∈ GL := tw (k := 907) (by decide +kernel) (by decide +kernel)
theorem t_909 : (Cond.instanceMethod y_M_stands) ∈ GL := tw (k := 909) (by decide +kernel) (by decide +kernel)
theorem t_910 : (Cond.code y_M_stands b_M_stands 5 (some .boolean)) ∈ GL := tw (k := 910) (by decide +kernel) (by decide +kernel)
theorem t_911 : (Cond.constantLong R_M 74 2) ∈ GL := tw (k := 911) (by decide +kernel) (by decide +kernel)
theorem t_912 : (Cond.constantLong R_M 76 8) ∈ GL := tw (k := 912) (by decide +kernel) (by decide +kernel)
theorem t_913 : (Cond.constantLong R_M 82 6) ∈ GL := tw (k := 913) (by decide +kernel) (by decide +kernel)
theorem t_914 : (Cond.constantLong R_M 84 12) ∈ GL := tw (k := 914) (by decide +kernel) (by decide +kernel)
theorem t_915 : (Cond.methodLink RL 78 y_M_sound) ∈ GL := tw (k := 915) (by decide +kernel) (by decide +kernel)
theorem t_916 : (Cond.instanceMethod y_M_sound) ∈ GL := tw (k := 916) (by decide +kernel) (by decide +kernel)
theorem t_917 : (Cond.selects R_M y_M_sound y_M_sound) ∈ GL := tw (k := 917) (by decide +kernel) (by decide +kernel)
theorem t_918 : (Cond.code y_M_sound b_M_sound 1 (some .boolean)) ∈ GL := tw (k := 918) (by decide +kernel) (by decide +kernel)
theorem t_919 : (Cond.methodLink RL 87 y_M_field) ∈ GL := tw (k := 919) (by decide +kernel) (by decide +kernel)
theorem t_920 : (Cond.instanceMethod y_M_field) ∈ GL := tw (k := 920) (by decide +kernel) (by decide +kernel)
theorem t_921 : (Cond.selects R_M y_M_field y_M_field) ∈ GL := tw (k := 921) (by decide +kernel) (by decide +kernel)
theorem t_922 : (Cond.code y_M_field b_M_field 6 (some .long)) ∈ GL := tw (k := 922) (by decide +kernel) (by decide +kernel)
theorem t_923 : (Cond.methodLink R_M 113 y_M_entry) ∈ GL := tw (k := 923) (by decide +kernel) (by decide +kernel)
theorem t_925 : (Cond.instanceMethod y_M_entry) ∈ GL := tw (k := 925) (by decide +kernel) (by decide +kernel)
theorem t_926 : (Cond.code y_M_entry b_M_entry 6 (some .int)) ∈ GL := tw (k := 926) (by decide +kernel) (by decide +kernel)
theorem t_927 : (Cond.methodLink R_M 117 y_M_values) ∈ GL := tw (k := 927) (by decide +kernel) (by decide +kernel)
theorem t_929 : (Cond.instanceMethod y_M_values) ∈ GL := tw (k := 929) (by decide +kernel) (by decide +kernel)
theorem t_930 : (Cond.code y_M_values b_M_values 6 (some .long)) ∈ GL := tw (k := 930) (by decide +kernel) (by decide +kernel)
theorem t_931 : (Cond.methodLink R_M 105 y_M_unit) ∈ GL := tw (k := 931) (by decide +kernel) (by decide +kernel)
theorem t_933 : (Cond.instanceMethod y_M_unit) ∈ GL := tw (k := 933) (by decide +kernel) (by decide +kernel)
theorem t_934 : (Cond.code y_M_unit b_M_unit 3 (some .int)) ∈ GL := tw (k := 934) (by decide +kernel) (by decide +kernel)
end
section
theorem t_935 : (Cond.constantLong R_M 109 (-1)) ∈ GL := tw (k := 935) (by decide +kernel) (by decide +kernel)
theorem t_936 : (Cond.constantLong R_M 111 4) ∈ GL := tw (k := 936) (by decide +kernel) (by decide +kernel)
theorem t_937 : (Cond.methodLink RL 92 y_M_fieldCount) ∈ GL := tw (k := 937) (by decide +kernel) (by decide +kernel)
theorem t_938 : (Cond.instanceMethod y_M_fieldCount) ∈ GL := tw (k := 938) (by decide +kernel) (by decide +kernel)
theorem t_939 : (Cond.selects R_M y_M_fieldCount y_M_fieldCount) ∈ GL := tw (k := 939) (by decide +kernel) (by decide +kernel)
theorem t_940 : (Cond.code y_M_fieldCount b_M_fieldCount 4 (some .long)) ∈ GL := tw (k := 940) (by decide +kernel) (by decide +kernel)
theorem t_941 : (Cond.methodLink RL 69 y_M_write) ∈ GL := tw (k := 941) (by decide +kernel) (by decide +kernel)
theorem t_942 : (Cond.instanceMethod y_M_write) ∈ GL := tw (k := 942) (by decide +kernel) (by decide +kernel)
theorem t_943 : (Cond.selects R_M y_M_write y_M_write) ∈ GL := tw (k := 943) (by decide +kernel) (by decide +kernel)
theorem t_944 : (Cond.code y_M_write b_M_write 12 (some .int)) ∈ GL := tw (k := 944) (by decide +kernel) (by decide +kernel)
theorem t_945 : (Cond.constant R_M 184 32773) ∈ GL := tw (k := 945) (by decide +kernel) (by decide +kernel)
theorem t_946 : (Cond.methodLink R_M 185 y_M_lay) ∈ GL := tw (k := 946) (by decide +kernel) (by decide +kernel)
theorem t_948 : (Cond.instanceMethod y_M_lay) ∈ GL := tw (k := 948) (by decide +kernel) (by decide +kernel)
theorem t_949 : (Cond.code y_M_lay b_M_lay 7 none) ∈ GL := tw (k := 949) (by decide +kernel) (by decide +kernel)
theorem t_950 : (Cond.methodLink R_M 175 y_M_even) ∈ GL := tw (k := 950) (by decide +kernel) (by decide +kernel)
theorem t_952 : (Cond.instanceMethod y_M_even) ∈ GL := tw (k := 952) (by decide +kernel) (by decide +kernel)
theorem t_953 : (Cond.code y_M_even b_M_even 1 none) ∈ GL := tw (k := 953) (by decide +kernel) (by decide +kernel)
theorem t_954 : (Cond.methodLink R_M 128 y_M_put) ∈ GL := tw (k := 954) (by decide +kernel) (by decide +kernel)
theorem t_956 : (Cond.instanceMethod y_M_put) ∈ GL := tw (k := 956) (by decide +kernel) (by decide +kernel)
theorem t_957 : (Cond.code y_M_put b_M_put 2 none) ∈ GL := tw (k := 957) (by decide +kernel) (by decide +kernel)
theorem t_958 : (Cond.methodLink R_M 178 y_M_gather) ∈ GL := tw (k := 958) (by decide +kernel) (by decide +kernel)
theorem t_960 : (Cond.instanceMethod y_M_gather) ∈ GL := tw (k := 960) (by decide +kernel) (by decide +kernel)
theorem t_961 : (Cond.code y_M_gather b_M_gather 9 none) ∈ GL := tw (k := 961) (by decide +kernel) (by decide +kernel)
theorem t_962 : (Cond.methodLink R_M 132 y_M_rowBytes) ∈ GL := tw (k := 962) (by decide +kernel) (by decide +kernel)
theorem t_963 : (Cond.static y_M_rowBytes) ∈ GL := tw (k := 963) (by decide +kernel) (by decide +kernel)
theorem t_964 : (Cond.code y_M_rowBytes b_M_rowBytes 2 (some .int)) ∈ GL := tw (k := 964) (by decide +kernel) (by decide +kernel)
theorem t_965 : (Cond.methodLink R_M 181 y_M_pack) ∈ GL := tw (k := 965) (by decide +kernel) (by decide +kernel)
theorem t_967 : (Cond.instanceMethod y_M_pack) ∈ GL := tw (k := 967) (by decide +kernel) (by decide +kernel)
theorem t_968 : (Cond.code y_M_pack b_M_pack 8 none) ∈ GL := tw (k := 968) (by decide +kernel) (by decide +kernel)
theorem t_969 : (Cond.methodLink R_M 155 y_M_codes) ∈ GL := tw (k := 969) (by decide +kernel) (by decide +kernel)
theorem t_971 : (Cond.instanceMethod y_M_codes) ∈ GL := tw (k := 971) (by decide +kernel) (by decide +kernel)
theorem t_972 : (Cond.code y_M_codes b_M_codes 8 none) ∈ GL := tw (k := 972) (by decide +kernel) (by decide +kernel)
theorem t_973 : (Cond.methodLink R_M 147 y_M_emit) ∈ GL := tw (k := 973) (by decide +kernel) (by decide +kernel)
theorem t_975 : (Cond.instanceMethod y_M_emit) ∈ GL := tw (k := 975) (by decide +kernel) (by decide +kernel)
theorem t_976 : (Cond.code y_M_emit b_M_emit 5 none) ∈ GL := tw (k := 976) (by decide +kernel) (by decide +kernel)
theorem t_977 : (Cond.methodLink R_M 138 y_M_width) ∈ GL := tw (k := 977) (by decide +kernel) (by decide +kernel)
theorem t_978 : (Cond.static y_M_width) ∈ GL := tw (k := 978) (by decide +kernel) (by decide +kernel)
theorem t_979 : (Cond.code y_M_width b_M_width 1 (some .int)) ∈ GL := tw (k := 979) (by decide +kernel) (by decide +kernel)
theorem t_980 : (Cond.methodLink R_M 151 y_M_same) ∈ GL := tw (k := 980) (by decide +kernel) (by decide +kernel)
theorem t_982 : (Cond.instanceMethod y_M_same) ∈ GL := tw (k := 982) (by decide +kernel) (by decide +kernel)
theorem t_983 : (Cond.code y_M_same b_M_same 5 (some .boolean)) ∈ GL := tw (k := 983) (by decide +kernel) (by decide +kernel)
theorem t_984 : (Cond.methodLink R_M 158 y_M_packets) ∈ GL := tw (k := 984) (by decide +kernel) (by decide +kernel)
theorem t_986 : (Cond.instanceMethod y_M_packets) ∈ GL := tw (k := 986) (by decide +kernel) (by decide +kernel)
theorem t_987 : (Cond.code y_M_packets b_M_packets 6 none) ∈ GL := tw (k := 987) (by decide +kernel) (by decide +kernel)
theorem t_988 : (Cond.methodLink R_M 135 y_M_run) ∈ GL := tw (k := 988) (by decide +kernel) (by decide +kernel)
theorem t_990 : (Cond.instanceMethod y_M_run) ∈ GL := tw (k := 990) (by decide +kernel) (by decide +kernel)
theorem t_991 : (Cond.code y_M_run b_M_run 4 (some .int)) ∈ GL := tw (k := 991) (by decide +kernel) (by decide +kernel)
theorem t_992 : (Cond.methodLink R_M 161 y_M_number) ∈ GL := tw (k := 992) (by decide +kernel) (by decide +kernel)
theorem t_994 : (Cond.instanceMethod y_M_number) ∈ GL := tw (k := 994) (by decide +kernel) (by decide +kernel)
theorem t_995 : (Cond.code y_M_number b_M_number 4 none) ∈ GL := tw (k := 995) (by decide +kernel) (by decide +kernel)
theorem t_996 : (Cond.methodLink R_M 124 y_M_store) ∈ GL := tw (k := 996) (by decide +kernel) (by decide +kernel)
theorem t_998 : (Cond.instanceMethod y_M_store) ∈ GL := tw (k := 998) (by decide +kernel) (by decide +kernel)
theorem t_999 : (Cond.code y_M_store b_M_store 8 none) ∈ GL := tw (k := 999) (by decide +kernel) (by decide +kernel)
theorem t_1000 : (Cond.methodLink R_M 172 y_M_text) ∈ GL := tw (k := 1000) (by decide +kernel) (by decide +kernel)
theorem t_1002 : (Cond.instanceMethod y_M_text) ∈ GL := tw (k := 1002) (by decide +kernel) (by decide +kernel)
theorem t_1003 : (Cond.code y_M_text b_M_text 3 none) ∈ GL := tw (k := 1003) (by decide +kernel) (by decide +kernel)
theorem t_1004 : (Cond.methodLink R_M 189 y_M_directory) ∈ GL := tw (k := 1004) (by decide +kernel) (by decide +kernel)
theorem t_1006 : (Cond.instanceMethod y_M_directory) ∈ GL := tw (k := 1006) (by decide +kernel) (by decide +kernel)
theorem t_1007 : (Cond.code y_M_directory b_M_directory 12 none) ∈ GL := tw (k := 1007) (by decide +kernel) (by decide +kernel)
theorem t_1008 : (Cond.methodLink R_M 169 y_M_small) ∈ GL := tw (k := 1008) (by decide +kernel) (by decide +kernel)
theorem t_1010 : (Cond.instanceMethod y_M_small) ∈ GL := tw (k := 1010) (by decide +kernel) (by decide +kernel)
theorem t_1011 : (Cond.code y_M_small b_M_small 3 none) ∈ GL := tw (k := 1011) (by decide +kernel) (by decide +kernel)
theorem t_1012 : (Cond.methodLink R_M 165 y_M_head) ∈ GL := tw (k := 1012) (by decide +kernel) (by decide +kernel)
theorem t_1014 : (Cond.instanceMethod y_M_head) ∈ GL := tw (k := 1014) (by decide +kernel) (by decide +kernel)
theorem t_1015 : (Cond.code y_M_head b_M_head 4 none) ∈ GL := tw (k := 1015) (by decide +kernel) (by decide +kernel)
theorem t_1016 : (Cond.methodLink RL 82 y_M_load) ∈ GL := tw (k := 1016) (by decide +kernel) (by decide +kernel)
theorem t_1017 : (Cond.instanceMethod y_M_load) ∈ GL := tw (k := 1017) (by decide +kernel) (by decide +kernel)
theorem t_1018 : (Cond.selects R_M y_M_load y_M_load) ∈ GL := tw (k := 1018) (by decide +kernel) (by decide +kernel)
theorem t_1019 : (Cond.code y_M_load b_M_load 3 (some .int)) ∈ GL := tw (k := 1019) (by decide +kernel) (by decide +kernel)
theorem t_1020 : (Cond.methodLink R_M 246 y_M_fields) ∈ GL := tw (k := 1020) (by decide +kernel) (by decide +kernel)
theorem t_1022 : (Cond.instanceMethod y_M_fields) ∈ GL := tw (k := 1022) (by decide +kernel) (by decide +kernel)
theorem t_1023 : (Cond.code y_M_fields b_M_fields 15 (some .boolean)) ∈ GL := tw (k := 1023) (by decide +kernel) (by decide +kernel)
theorem t_1024 : (Cond.methodLink R_M 207 y_M_one) ∈ GL := tw (k := 1024) (by decide +kernel) (by decide +kernel)
theorem t_1026 : (Cond.instanceMethod y_M_one) ∈ GL := tw (k := 1026) (by decide +kernel) (by decide +kernel)
theorem t_1027 : (Cond.code y_M_one b_M_one 3 (some .long)) ∈ GL := tw (k := 1027) (by decide +kernel) (by decide +kernel)
theorem t_1028 : (Cond.methodLink R_M 193 y_M_good) ∈ GL := tw (k := 1028) (by decide +kernel) (by decide +kernel)
theorem t_1030 : (Cond.instanceMethod y_M_good) ∈ GL := tw (k := 1030) (by decide +kernel) (by decide +kernel)
theorem t_1031 : (Cond.code y_M_good b_M_good 6 (some .int)) ∈ GL := tw (k := 1031) (by decide +kernel) (by decide +kernel)
theorem t_1032 : (Cond.methodLink R_M 197 y_M_field) ∈ GL := tw (k := 1032) (by decide +kernel) (by decide +kernel)
theorem t_1033 : (Cond.methodLink R_M 210 y_M_rising) ∈ GL := tw (k := 1033) (by decide +kernel) (by decide +kernel)
theorem t_1035 : (Cond.instanceMethod y_M_rising) ∈ GL := tw (k := 1035) (by decide +kernel) (by decide +kernel)
theorem t_1036 : (Cond.code y_M_rising b_M_rising 4 (some .boolean)) ∈ GL := tw (k := 1036) (by decide +kernel) (by decide +kernel)
theorem t_1037 : (Cond.constantLong R_M 214 16) ∈ GL := tw (k := 1037) (by decide +kernel) (by decide +kernel)
theorem t_1038 : (Cond.constantLong R_M 216 5) ∈ GL := tw (k := 1038) (by decide +kernel) (by decide +kernel)
theorem t_1039 : (Cond.constantLong R_M 218 32773) ∈ GL := tw (k := 1039) (by decide +kernel) (by decide +kernel)
theorem t_1040 : (Cond.methodLink R_M 232 y_M_strips) ∈ GL := tw (k := 1040) (by decide +kernel) (by decide +kernel)
theorem t_1042 : (Cond.instanceMethod y_M_strips) ∈ GL := tw (k := 1042) (by decide +kernel) (by decide +kernel)
theorem t_1043 : (Cond.code y_M_strips b_M_strips 1 (some .int)) ∈ GL := tw (k := 1043) (by decide +kernel) (by decide +kernel)
theorem t_1044 : (Cond.methodLink R_M 249 y_M_strip) ∈ GL := tw (k := 1044) (by decide +kernel) (by decide +kernel)
theorem t_1046 : (Cond.instanceMethod y_M_strip) ∈ GL := tw (k := 1046) (by decide +kernel) (by decide +kernel)
theorem t_1047 : (Cond.code y_M_strip b_M_strip 10 (some .boolean)) ∈ GL := tw (k := 1047) (by decide +kernel) (by decide +kernel)
theorem t_1048 : (Cond.methodLink R_M 240 y_M_unpack) ∈ GL := tw (k := 1048) (by decide +kernel) (by decide +kernel)
theorem t_1050 : (Cond.instanceMethod y_M_unpack) ∈ GL := tw (k := 1050) (by decide +kernel) (by decide +kernel)
theorem t_1051 : (Cond.code y_M_unpack b_M_unpack 10 (some .boolean)) ∈ GL := tw (k := 1051) (by decide +kernel) (by decide +kernel)
theorem t_1052 : (Cond.methodLink R_M 243 y_M_decode) ∈ GL := tw (k := 1052) (by decide +kernel) (by decide +kernel)
theorem t_1054 : (Cond.instanceMethod y_M_decode) ∈ GL := tw (k := 1054) (by decide +kernel) (by decide +kernel)
theorem t_1055 : (Cond.code y_M_decode b_M_decode 11 (some .boolean)) ∈ GL := tw (k := 1055) (by decide +kernel) (by decide +kernel)
theorem t_1056 : (Cond.methodLink R_M 236 y_M_code) ∈ GL := tw (k := 1056) (by decide +kernel) (by decide +kernel)
theorem t_1058 : (Cond.instanceMethod y_M_code) ∈ GL := tw (k := 1058) (by decide +kernel) (by decide +kernel)
theorem t_1059 : (Cond.code y_M_code b_M_code 6 (some .int)) ∈ GL := tw (k := 1059) (by decide +kernel) (by decide +kernel)
theorem t_1060 : (Cond.methodLink R_M 253 y_M_take) ∈ GL := tw (k := 1060) (by decide +kernel) (by decide +kernel)
theorem t_1062 : (Cond.instanceMethod y_M_take) ∈ GL := tw (k := 1062) (by decide +kernel) (by decide +kernel)
theorem t_1063 : (Cond.code y_M_take b_M_take 8 none) ∈ GL := tw (k := 1063) (by decide +kernel) (by decide +kernel)
end
section
theorem in_Da : ∀ w ∈ u_ws R_Da T_Da 1, w ∈ GL := gin_of (fun k hk => by match k, hk with
  | 0, _ => exact t_215
  | j + 1, h => exact absurd h (by omega))
theorem in_En : ∀ w ∈ u_ws R_En T_En 4, w ∈ GL := gin_of (fun k hk => by match k, hk with
  | 0, _ => exact t_271
  | 1, _ => exact t_273
  | 2, _ => exact t_275
  | 3, _ => exact t_277
  | j + 4, h => exact absurd h (by omega))
theorem in_Lb : ∀ w ∈ u_ws R_Lb T_Lb 4, w ∈ GL := gin_of (fun k hk => by match k, hk with
  | 0, _ => exact t_163
  | 1, _ => exact t_165
  | 2, _ => exact t_167
  | 3, _ => exact t_169
  | j + 4, h => exact absurd h (by omega))
theorem in_Ly : ∀ w ∈ u_ws R_Ly T_Ly 6, w ∈ GL := gin_of (fun k hk => by match k, hk with
  | 0, _ => exact t_194
  | 1, _ => exact t_196
  | 2, _ => exact t_198
  | 3, _ => exact t_200
  | 4, _ => exact t_202
  | 5, _ => exact t_204
  | j + 6, h => exact absurd h (by omega))
theorem in_Nd : ∀ w ∈ u_ws R_Nd T_Nd 3, w ∈ GL := gin_of (fun k hk => by match k, hk with
  | 0, _ => exact t_252
  | 1, _ => exact t_254
  | 2, _ => exact t_256
  | j + 3, h => exact absurd h (by omega))
theorem in_Ne : ∀ w ∈ u_ws R_Ne T_Ne 6, w ∈ GL := gin_of (fun k hk => by match k, hk with
  | 0, _ => exact t_230
  | 1, _ => exact t_232
  | 2, _ => exact t_234
  | 3, _ => exact t_236
  | 4, _ => exact t_238
  | 5, _ => exact t_240
  | j + 6, h => exact absurd h (by omega))
theorem in_Pi : ∀ w ∈ u_ws R_Pi T_Pi 4, w ∈ GL := gin_of (fun k hk => by match k, hk with
  | 0, _ => exact t_142
  | 1, _ => exact t_144
  | 2, _ => exact t_146
  | 3, _ => exact t_148
  | j + 4, h => exact absurd h (by omega))
theorem in_St : ∀ w ∈ u_ws R_St T_St 3, w ∈ GL := gin_of (fun k hk => by match k, hk with
  | 0, _ => exact t_98
  | 1, _ => exact t_100
  | 2, _ => exact t_102
  | j + 3, h => exact absurd h (by omega))
theorem in_Wk : ∀ w ∈ u_ws R_Wk T_Wk 4, w ∈ GL := gin_of (fun k hk => by match k, hk with
  | 0, _ => exact t_120
  | 1, _ => exact t_122
  | 2, _ => exact t_124
  | 3, _ => exact t_126
  | j + 4, h => exact absurd h (by omega))
theorem in_X : ∀ w ∈ u_ws R_X T_X 14, w ∈ GL := gin_of (fun k hk => by match k, hk with
  | 0, _ => exact t_321
  | 1, _ => exact t_323
  | 2, _ => exact t_325
  | 3, _ => exact t_327
  | 4, _ => exact t_329
  | 5, _ => exact t_331
  | 6, _ => exact t_333
  | 7, _ => exact t_335
  | 8, _ => exact t_337
  | 9, _ => exact t_339
  | 10, _ => exact t_341
  | 11, _ => exact t_343
  | 12, _ => exact t_345
  | 13, _ => exact t_347
  | j + 14, h => exact absurd h (by omega))
theorem in_M : ∀ w ∈ u_ws R_M T_M 30, w ∈ GL := gin_of (fun k hk => by match k, hk with
  | 0, _ => exact t_788
  | 1, _ => exact t_790
  | 2, _ => exact t_792
  | 3, _ => exact t_794
  | 4, _ => exact t_796
  | 5, _ => exact t_798
  | 6, _ => exact t_800
  | 7, _ => exact t_802
  | 8, _ => exact t_804
  | 9, _ => exact t_806
  | 10, _ => exact t_808
  | 11, _ => exact t_810
  | 12, _ => exact t_812
  | 13, _ => exact t_814
  | 14, _ => exact t_816
  | 15, _ => exact t_818
  | 16, _ => exact t_820
  | 17, _ => exact t_822
  | 18, _ => exact t_824
  | 19, _ => exact t_826
  | 20, _ => exact t_828
  | 21, _ => exact t_830
  | 22, _ => exact t_832
  | 23, _ => exact t_834
  | 24, _ => exact t_836
  | 25, _ => exact t_838
  | 26, _ => exact t_840
  | 27, _ => exact t_842
  | 28, _ => exact t_844
  | 29, _ => exact t_846
  | j + 30, h => exact absurd h (by omega))
def nestQ : List (String × Nat × MethodName × String) := [(R_X, 9, y_St_init, "TaggedRaster"), (R_X, 18, y_Wk_init, "TaggedRaster"), (R_X, 25, y_Pi_init, "TaggedRaster"), (R_X, 32, y_Lb_init, "TaggedRaster"), (R_X, 39, y_Ly_init, "TaggedRaster"), (R_X, 46, y_Da_init, "TaggedRaster"), (R_X, 53, y_Ne_init, "TaggedRaster"), (R_X, 60, y_Nd_init, "TaggedRaster"), (R_X, 67, y_En_init, "TaggedRaster"), (R_Ne, 59, y_X_codeWidth, "TaggedRaster"), (R_Nd, 18, y_X_codeWidth, "TaggedRaster")]
def nestL : List Cond := nestQ.map (fun q => .methodLinkNest q.1 q.2.1 q.2.2.1 q.2.2.2)
def gN (U : State) : Prop := ∀ w ∈ nestL, va_Nw w U
theorem gN.warm {s U : State} (hW : s.WarmedH U.vm) (h : gN s) : gN U := fun w hw => by
  obtain ⟨q, hq, rfl⟩ := List.mem_map.mp hw
  exact va_Nw.warmM hW (h _ hw)
theorem gN.same {u U : State} (h : u.vm = U.vm) (hn : gN u) : gN U := fun w hw => by
  obtain ⟨q, hq, rfl⟩ := List.mem_map.mp hw
  exact va_Nw.same rfl h (hn _ hw)
theorem nw_0 : (Cond.methodLinkNest R_X 9 y_St_init "TaggedRaster") ∈ nestL := List.mem_map.mpr ⟨_, List.mem_of_getElem? (i := 0) rfl, rfl⟩
theorem nw_1 : (Cond.methodLinkNest R_X 18 y_Wk_init "TaggedRaster") ∈ nestL := List.mem_map.mpr ⟨_, List.mem_of_getElem? (i := 1) rfl, rfl⟩
theorem nw_2 : (Cond.methodLinkNest R_X 25 y_Pi_init "TaggedRaster") ∈ nestL := List.mem_map.mpr ⟨_, List.mem_of_getElem? (i := 2) rfl, rfl⟩
theorem nw_3 : (Cond.methodLinkNest R_X 32 y_Lb_init "TaggedRaster") ∈ nestL := List.mem_map.mpr ⟨_, List.mem_of_getElem? (i := 3) rfl, rfl⟩
theorem nw_4 : (Cond.methodLinkNest R_X 39 y_Ly_init "TaggedRaster") ∈ nestL := List.mem_map.mpr ⟨_, List.mem_of_getElem? (i := 4) rfl, rfl⟩
theorem nw_5 : (Cond.methodLinkNest R_X 46 y_Da_init "TaggedRaster") ∈ nestL := List.mem_map.mpr ⟨_, List.mem_of_getElem? (i := 5) rfl, rfl⟩
theorem nw_6 : (Cond.methodLinkNest R_X 53 y_Ne_init "TaggedRaster") ∈ nestL := List.mem_map.mpr ⟨_, List.mem_of_getElem? (i := 6) rfl, rfl⟩
theorem nw_7 : (Cond.methodLinkNest R_X 60 y_Nd_init "TaggedRaster") ∈ nestL := List.mem_map.mpr ⟨_, List.mem_of_getElem? (i := 7) rfl, rfl⟩
theorem nw_8 : (Cond.methodLinkNest R_X 67 y_En_init "TaggedRaster") ∈ nestL := List.mem_map.mpr ⟨_, List.mem_of_getElem? (i := 8) rfl, rfl⟩
theorem nw_9 : (Cond.methodLinkNest R_Ne 59 y_X_codeWidth "TaggedRaster") ∈ nestL := List.mem_map.mpr ⟨_, List.mem_of_getElem? (i := 9) rfl, rfl⟩
theorem nw_10 : (Cond.methodLinkNest R_Nd 18 y_X_codeWidth "TaggedRaster") ∈ nestL := List.mem_map.mpr ⟨_, List.mem_of_getElem? (i := 10) rfl, rfl⟩
/-! our own rows: contracts of one shape over the kit's worlds, and one row a call -/
abbrev gz (cI : ClassId) (a n : Nat) (f : Nat → Int32) : Nat × va_E := (a, .inl (cI, n, .inl f))
def gl (l : List Nat) (k : Nat) : Nat := l.getD k 0
def gi (l : List Int32) (k : Nat) : Int32 := l.getD k 0
def gj (l : List Int64) (k : Nat) : Int64 := l.getD k 0
theorem gz_nar {v : Int32} (h : v = 0 ∨ v = 1) : narrow .boolean (.int v) = .int v := by rcases h with rfl | rfl <;> rfl
theorem gz_fit {v : Int32} (h : v = 0 ∨ v = 1) : fits .boolean (.int v) = true := by rcases h with rfl | rfl <;> rfl
theorem gk_same {D : va_G} {cl : List vw_C} {cI cA : ClassId} {s : State} (h : va_K D cl ([(cI, .int)] ++ [(cA, .int)]) s) : cA = cI := by
  have h1 : s.vm.findClass ("[" ++ FieldType.int.toString) = some cI := (h.2 0 _ rfl).2
  have h2 : s.vm.findClass ("[" ++ FieldType.int.toString) = some cA := (h.2 1 _ rfl).2
  exact Option.some.inj (h2.symm.trans h1)
theorem gg_B {y : MethodName} {cc : ByteArray} {n : Nat} {r : Option FieldType} (h : Cond.code y cc n r ∈ GL) : GoodIn GL (Cond.code y cc n r :: GL) := fun w hw => by
  rcases List.mem_cons.mp hw with rfl | hw
  · exact ⟨h, GL_good _ h⟩
  · exact ⟨hw, GL_good _ hw⟩
theorem gg_V {own C : String} {i : Nat} {y : MethodName} {cc : ByteArray} {n : Nat} {r : Option FieldType} (h1 : Cond.methodLink own i y ∈ GL) (h2 : Cond.instanceMethod y ∈ GL) (h3 : Cond.selects C y y ∈ GL) (h4 : Cond.initialized C ∈ GL) (h : Cond.code y cc n r ∈ GL) : GoodIn GL (wsV own i C y (Cond.code y cc n r :: GL)) := fun w hw => by
  rcases List.mem_append.mp hw with hw | hw
  · have : w ∈ GL := by
      simp only [List.mem_cons, List.not_mem_nil, or_false] at hw
      rcases hw with rfl | rfl | rfl | rfl <;> assumption
    exact ⟨this, GL_good _ this⟩
  · exact gg_B h w hw
theorem gg_S {own : String} {i : Nat} {y : MethodName} {cc : ByteArray} {n : Nat} {r : Option FieldType} (h1 : Cond.methodLink own i y ∈ GL) (h2 : Cond.static y ∈ GL) (h4 : Cond.initialized y.cls ∈ GL) (h : Cond.code y cc n r ∈ GL) : GoodIn GL (va_wsS own i y (Cond.code y cc n r :: GL)) := fun w hw => by
  rcases List.mem_append.mp hw with hw | hw
  · have : w ∈ GL := by
      simp only [List.mem_cons, List.not_mem_nil, or_false] at hw
      rcases hw with rfl | rfl | rfl <;> assumption
    exact ⟨this, GL_good _ this⟩
  · exact gg_B h w hw
def gm_P (D : va_G) (cl : List vw_C) (tys : List (ClassId × FieldType)) (sz : Nat) (w0 : va_W) : State → Prop := fun U => U.heap.size = sz ∧ va_P D cl w0 U.heap ∧ va_K D cl tys U ∧ gN U ∧ va_D (fun _ => True) w0
def gm_B {S : Type} (D : va_G) (cl : List vw_C) (tys : List (ClassId × FieldType)) (A : Nat → Prop) (wf : S → va_W) : S → State → Prop := fun u t => va_P D cl (wf u) t.heap ∧ va_K D cl tys t ∧ va_D A (wf u)
theorem gm_blind {D : va_G} {cl : List vw_C} {tys : List (ClassId × FieldType)} {sz : Nat} {w0 : va_W} {av : List Value} : FrameBlind (va_Pc av (gm_P D cl tys sz w0)) := fun a U g mk q => by
  obtain ⟨q0, q1, qP, qK, qN, qD⟩ := q
  exact ⟨q0, q1, qP, va_K.moved (u := U) (U := U.calling g mk a) (Vm.Alike.refl U.vm) qK, gN.same (u := U) (U := U.calling g mk a) rfl qN, qD⟩
theorem gm_pre {D : va_G} {cl : List vw_C} {tys : List (ClassId × FieldType)} {s : State} {H : Heap} {wc : va_W} {av : List Value} {A : Nat → Prop} (hK : va_K D cl tys s) (hN : gN s) (hP : va_P D cl wc H) (hD : va_D A wc) : ∀ U : State, U.heap = H → s.WarmedH U.vm → va_Pc av (gm_P D cl tys H.size wc) av.toArray U :=
  fun U hU hW => ⟨rfl, by rw [hU], by rw [hU]; exact hP, va_K.moved hW.alike hK, gN.warm hW hN, hD.weaken (fun _ _ _ _ => trivial)⟩
theorem gm_sub {D : va_G} {cl : List vw_C} {ws ws' : va_W} {H : Heap} (h : va_P D cl ws H) (is : List Nat) (hs : is.map (fun i => ws[i]?) = ws'.map some) : va_P D cl ws' H := by
  intro k q hk
  have h1 : (is.map (fun i => ws[i]?))[k]? = some (some q) := by rw [hs, List.getElem?_map, hk]; rfl
  rw [List.getElem?_map] at h1
  cases hi : is[k]? with
  | none => rw [hi] at h1; cases h1
  | some i => rw [hi] at h1; exact h i q (Option.some.inj h1)
/-- a contract: what is given of the world w0 and the arguments av; the answer, and the world behind it -/
def gm_i {S : Type} (l : Launch) (y : MethodName) (ws : List Cond) (rm : Room) (D : va_G) (cl : List vw_C) (tys : List (ClassId × FieldType)) (av : List Value) (w0 : va_W) (wf : S → va_W) (post : Int32 → S → Prop) : Prop :=
  ∀ sz : Nat, Met l y ws rm (va_Pc av (gm_P D cl tys sz w0)) (va_Qi post (gm_B D cl tys (va_A w0 sz) wf) (va_A w0 sz)) rm.cells rm.slots (va_A w0 sz)
def gm_l {S : Type} (l : Launch) (y : MethodName) (ws : List Cond) (rm : Room) (D : va_G) (cl : List vw_C) (tys : List (ClassId × FieldType)) (av : List Value) (w0 : va_W) (wf : S → va_W) (post : Int64 → S → Prop) : Prop :=
  ∀ sz : Nat, Met l y ws rm (va_Pc av (gm_P D cl tys sz w0)) (va_Ql post (gm_B D cl tys (va_A w0 sz) wf) (va_A w0 sz)) rm.cells rm.slots (va_A w0 sz)
def gm_v {S : Type} (l : Launch) (y : MethodName) (ws : List Cond) (rm : Room) (D : va_G) (cl : List vw_C) (tys : List (ClassId × FieldType)) (av : List Value) (w0 : va_W) (wf : S → va_W) (post : S → Prop) : Prop :=
  ∀ sz : Nat, Met l y ws rm (va_Pc av (gm_P D cl tys sz w0)) (va_Qv post (gm_B D cl tys (va_A w0 sz) wf) (va_A w0 sz)) rm.cells rm.slots (va_A w0 sz)
section GMO
variable {S : Type} {l : Launch} {y : MethodName} {ws : List Cond} {rm : Room} {D : va_G} {cl : List vw_C} {tys : List (ClassId × FieldType)} {av : List Value} {w0 : va_W} {wf : S → va_W} {cc : ByteArray} {maxL : Nat}
theorem gm_iof {post : Int32 → S → Prop} {ty : FieldType} (hy : plainName y.cls = true) (hw : ws = Cond.code y cc maxL (some ty) :: GL) (hlen : (lg_sl av).length ≤ maxL)
    (body : ∀ (p : Program) (e : Env) (s : State) (m : MethodId) (args : Array Value) (below : List Frame) (meth : Method) (c : Code) (A : Nat → Prop) (Q : State → Prop), p.tables.exec = Jvm.exec → c.code = cc → c.maxLocals = maxL → s.vm.findClass y.cls = some m.cls → (∀ w ∈ GL, w.before args s = true) → va_K D cl tys s → gN s → (∀ q, s.heap.size ≤ q → A q) →
      (∀ (H : Heap) (locs : List Loc) (pc : Nat) (ls : Array Slot) (v : Int32) (u : S), decode cc pc = .ok (.ireturn, 1) → narrow ty (.int v) = .int v → va_P D cl (wf u) H → va_D A (wf u) → va_S A s.heap H locs → post v u → W p l e rm s m args below meth c H locs rm.cells rm.slots Q (F0 m pc ls [.int v])) →
      ∀ ls : Array Slot, lv_has ls maxL (lv_args 0 av) → va_P D cl w0 s.heap → va_D A w0 → va_S A s.heap s.heap [] → W p l e rm s m args below meth c s.heap [] 0 0 Q (F0 m 0 ls [])) : gm_i l y ws rm D cl tys av w0 wf post := by
  intro sz
  refine Met.ofW (cc := cc) (maxL := maxL) (ret := some ty) hy hw ?_
  intro p e s m args below meth c s₁ B hml hv
  obtain ⟨rfl, hsz, hP, hK, hN, hD0⟩ := hv
  subst hsz
  rw [lg_entry_eq]
  exact body p e s m _ below meth c (va_A w0 s.heap.size) _ B.exec B.bytes hml (findClass_of_methodNamed B.named) (fun w h => atoms_spec (ws := ws) B.pre w (by rw [hw]; exact List.mem_cons_of_mem _ h)) hK hN (fun q h => Or.inr h) (fun H locs pc ls v u hd hn hP hD hS hp => W.zret B.exec B.bytes B.returns hn (fun t ht hW => ⟨⟨v, u, rfl, hp, by rw [ht]; exact hP, va_K.moved hW.alike hK, hD⟩, hS.F ht⟩) hS.2.2 hd B.notSynchronized) _ (lv_entry av hlen) hP hD0.self va_S.rf
theorem gm_lof {post : Int64 → S → Prop} (hy : plainName y.cls = true) (hw : ws = Cond.code y cc maxL (some .long) :: GL) (hlen : (lg_sl av).length ≤ maxL)
    (body : ∀ (p : Program) (e : Env) (s : State) (m : MethodId) (args : Array Value) (below : List Frame) (meth : Method) (c : Code) (A : Nat → Prop) (Q : State → Prop), p.tables.exec = Jvm.exec → c.code = cc → c.maxLocals = maxL → s.vm.findClass y.cls = some m.cls → (∀ w ∈ GL, w.before args s = true) → va_K D cl tys s → gN s → (∀ q, s.heap.size ≤ q → A q) →
      (∀ (H : Heap) (locs : List Loc) (pc : Nat) (ls : Array Slot) (v : Int64) (u : S), decode cc pc = .ok (.lreturn, 1) → va_P D cl (wf u) H → va_D A (wf u) → va_S A s.heap H locs → post v u → W p l e rm s m args below meth c H locs rm.cells rm.slots Q (F0 m pc ls [.long v])) →
      ∀ ls : Array Slot, lv_has ls maxL (lv_args 0 av) → va_P D cl w0 s.heap → va_D A w0 → va_S A s.heap s.heap [] → W p l e rm s m args below meth c s.heap [] 0 0 Q (F0 m 0 ls [])) : gm_l l y ws rm D cl tys av w0 wf post := by
  intro sz
  refine Met.ofW (cc := cc) (maxL := maxL) (ret := some .long) hy hw ?_
  intro p e s m args below meth c s₁ B hml hv
  obtain ⟨rfl, hsz, hP, hK, hN, hD0⟩ := hv
  subst hsz
  rw [lg_entry_eq]
  exact body p e s m _ below meth c (va_A w0 s.heap.size) _ B.exec B.bytes hml (findClass_of_methodNamed B.named) (fun w h => atoms_spec (ws := ws) B.pre w (by rw [hw]; exact List.mem_cons_of_mem _ h)) hK hN (fun q h => Or.inr h) (fun H locs pc ls v u hd hP hD hS hp => W.lret B.exec B.bytes B.returns (fun t ht hW => ⟨⟨v, u, rfl, hp, by rw [ht]; exact hP, va_K.moved hW.alike hK, hD⟩, hS.F ht⟩) hS.2.2 hd B.notSynchronized) _ (lv_entry av hlen) hP hD0.self va_S.rf
theorem gm_vof {post : S → Prop} (hy : plainName y.cls = true) (hw : ws = Cond.code y cc maxL none :: GL) (hlen : (lg_sl av).length ≤ maxL)
    (body : ∀ (p : Program) (e : Env) (s : State) (m : MethodId) (args : Array Value) (below : List Frame) (meth : Method) (c : Code) (A : Nat → Prop) (Q : State → Prop), p.tables.exec = Jvm.exec → c.code = cc → c.maxLocals = maxL → s.vm.findClass y.cls = some m.cls → (∀ w ∈ GL, w.before args s = true) → va_K D cl tys s → gN s → (∀ q, s.heap.size ≤ q → A q) → meth.name = y.name →
      (∀ (H : Heap) (locs : List Loc) (pc : Nat) (ls : Array Slot) (u : S), decode cc pc = .ok (.return_, 1) → va_P D cl (wf u) H → va_D A (wf u) → va_S A s.heap H locs → post u → W p l e rm s m args below meth c H locs rm.cells rm.slots Q (F0 m pc ls [])) →
      ∀ ls : Array Slot, lv_has ls maxL (lv_args 0 av) → va_P D cl w0 s.heap → va_D A w0 → va_S A s.heap s.heap [] → W p l e rm s m args below meth c s.heap [] 0 0 Q (F0 m 0 ls [])) : gm_v l y ws rm D cl tys av w0 wf post := by
  intro sz
  refine Met.ofW (cc := cc) (maxL := maxL) (ret := none) hy hw ?_
  intro p e s m args below meth c s₁ B hml hv
  obtain ⟨rfl, hsz, hP, hK, hN, hD0⟩ := hv
  subst hsz
  rw [lg_entry_eq]
  exact body p e s m _ below meth c (va_A w0 s.heap.size) _ B.exec B.bytes hml (findClass_of_methodNamed B.named) (fun w h => atoms_spec (ws := ws) B.pre w (by rw [hw]; exact List.mem_cons_of_mem _ h)) hK hN (fun q h => Or.inr h) (name_of_methodNamed B.named B.method).1 (fun H locs pc ls u hd hP hD hS hp => W.vret B.exec B.bytes B.returns (fun t ht hW => ⟨⟨u, rfl, hp, by rw [ht]; exact hP, va_K.moved hW.alike hK, hD⟩, hS.F ht⟩) hS.2.2 hd B.notSynchronized) _ (lv_entry av hlen) hP hD0.self va_S.rf
end GMO
section GRUN
variable {p : Program} {l : Launch} {e : Env} {R : Room} {s : State} {m : MethodId} {args : Array Value} {below : List Frame} {meth : Method} {c : Code} {H : Heap} {locs : List Loc} {cells slots : Nat} {Q : State → Prop}
variable {y : MethodName} {bytes cc : ByteArray} {maxL nL mc ms n index : Nat} {ret : Option FieldType} {wsc : List Cond} {rmc : Room} {Qc : Array Value → State → Outcome → State → Prop} {free : Addr → Prop} {Ts : List Cond} {own C host : String} {b : Addr} {As rest st0 : List Value} {pc : Nat} {ls : Array Slot}
variable {D : va_G} {cl : List vw_C} {tys : List (ClassId × FieldType)} {ws wc : va_W} {A : Nat → Prop}
theorem gr_V (F : CallFix p m c cc nL s args Ts own) (hM : Met l y wsc rmc (va_Pc (.ref b :: As) (gm_P D cl tys H.size wc)) Qc mc ms free) (cw : CallW R s args own C index y bytes maxL ret wsc rmc mc ms n) (hK : va_K D cl tys s) (hN : gN s) (hP : va_P D cl ws H) (hD : va_D A ws) (isC : List Nat) (hnC : va_nd isC = true) (hC : isC.map (fun i => ws[i]?) = wc.map some)
    (q0 ci : Nat) {fs : List Value} {qC : vw_C} (he : ws[q0]? = some (b, .inr (ci, fs))) (hcl : cl[ci]? = some qC) (hq : qC.1 = C) (hAs : As.length = n) (hsz : ls.size = nL) (hst : st0 = As.reverse ++ .ref b :: rest) (hW : (rest.map fun v => v.category).sum ≤ 8) (hdg : decode cc pc = .ok (.invokevirtual index, 3)) (hf : cells + mc ≤ R.cells ∧ slots + ms ≤ R.slots) :
    va_Run p l e R s m args below meth c H locs cells slots mc ms (F0 m pc ls st0) rest (Qc (Value.ref b :: As).toArray) free := by
  subst hst
  have hPc := gm_sub hP isC hC
  have hDc := hD.sub isC hnC hC
  subst hq
  exact va_runV F hM cw ⟨gm_blind, va_recv hK hP hcl he, gm_pre hK hN hPc hDc⟩ rfl hAs hsz rfl (lv_room hW) hdg hf
theorem gr_S (F : CallFix p m c cc nL s args Ts own) (hM : Met l y wsc rmc (va_Pc As (gm_P D cl tys H.size wc)) Qc mc ms free) (cw : CallB R s args own index y bytes maxL ret wsc rmc mc ms n ∧ (Cond.static y).before args s = true) (hK : va_K D cl tys s) (hN : gN s) (hP : va_P D cl ws H) (hD : va_D A ws) (isC : List Nat) (hnC : va_nd isC = true) (hC : isC.map (fun i => ws[i]?) = wc.map some)
    (hAs : As.length = n) (hsz : ls.size = nL) (hst : st0 = As.reverse ++ rest) (hW : (rest.map fun v => v.category).sum ≤ 8) (hdg : decode cc pc = .ok (.invokestatic index, 3)) (hf : cells + mc ≤ R.cells ∧ slots + ms ≤ R.slots) :
    va_Run p l e R s m args below meth c H locs cells slots mc ms (F0 m pc ls st0) rest (Qc As.toArray) free := by
  subst hst
  exact va_runS F hM cw ⟨gm_blind, gm_pre hK hN (gm_sub hP isC hC) (hD.sub isC hnC hC)⟩ rfl hAs hsz rfl (lv_room hW) hdg hf
theorem gr_I (F : CallFix p m c cc nL s args Ts own) (hM : Met l y wsc rmc (va_Pc (.ref b :: As) (gm_P D cl tys H.size wc)) Qc mc ms free) (cw : CallB R s args own index y bytes maxL none wsc rmc mc ms n ∧ y.name = "<init>" ∧ (Cond.instanceMethod y).before args s = true) (hK : va_K D cl tys s) (hN : gN s) (hP : va_P D cl ws H) (hD : va_D A ws) (isC : List Nat) (hnC : va_nd isC = true) (hC : isC.map (fun i => ws[i]?) = wc.map some)
    (hAs : As.length = n) (hsz : ls.size = nL) (hst : st0 = As.reverse ++ .ref b :: rest) (hW : (rest.map fun v => v.category).sum ≤ 8) (hdg : decode cc pc = .ok (.invokespecial index, 3)) (hf : cells + mc ≤ R.cells ∧ slots + ms ≤ R.slots) :
    va_Run p l e R s m args below meth c H locs cells slots mc ms (F0 m pc ls st0) rest (Qc (Value.ref b :: As).toArray) free := by
  subst hst
  exact va_runI F hM cw ⟨gm_blind, gm_pre hK hN (gm_sub hP isC hC) (hD.sub isC hnC hC)⟩ rfl hAs hsz rfl (lv_room hW) hdg hf
theorem gr_SN (F : CallFix p m c cc nL s args Ts own) (hM : Met l y wsc rmc (va_Pc As (gm_P D cl tys H.size wc)) Qc mc ms free) (cw : va_CN R s args own index y host bytes maxL ret wsc rmc mc ms n ∧ (Cond.static y).before args s = true ∧ True) (hK : va_K D cl tys s) (hN : gN s) (hP : va_P D cl ws H) (hD : va_D A ws) (isC : List Nat) (hnC : va_nd isC = true) (hC : isC.map (fun i => ws[i]?) = wc.map some)
    (hAs : As.length = n) (hsz : ls.size = nL) (hst : st0 = As.reverse ++ rest) (hW : (rest.map fun v => v.category).sum ≤ 8) (hdg : decode cc pc = .ok (.invokestatic index, 3)) (hf : cells + mc ≤ R.cells ∧ slots + ms ≤ R.slots) :
    va_Run p l e R s m args below meth c H locs cells slots mc ms (F0 m pc ls st0) rest (Qc As.toArray) free := by
  subst hst
  exact va_runSN F hM cw ⟨gm_blind, gm_pre hK hN (gm_sub hP isC hC) (hD.sub isC hnC hC)⟩ rfl hAs hsz rfl (lv_room hW) hdg hf
theorem gr_IN (F : CallFix p m c cc nL s args Ts own) (hM : Met l y wsc rmc (va_Pc (.ref b :: As) (gm_P D cl tys H.size wc)) Qc mc ms free) (cw : va_CN R s args own index y host bytes maxL none wsc rmc mc ms n ∧ y.name = "<init>" ∧ (Cond.instanceMethod y).before args s = true) (hK : va_K D cl tys s) (hN : gN s) (hP : va_P D cl ws H) (hD : va_D A ws) (isC : List Nat) (hnC : va_nd isC = true) (hC : isC.map (fun i => ws[i]?) = wc.map some)
    (hAs : As.length = n) (hsz : ls.size = nL) (hst : st0 = As.reverse ++ .ref b :: rest) (hW : (rest.map fun v => v.category).sum ≤ 8) (hdg : decode cc pc = .ok (.invokespecial index, 3)) (hf : cells + mc ≤ R.cells ∧ slots + ms ≤ R.slots) :
    va_Run p l e R s m args below meth c H locs cells slots mc ms (F0 m pc ls st0) rest (Qc (Value.ref b :: As).toArray) free := by
  subst hst
  exact va_runIN F hM cw ⟨gm_blind, gm_pre hK hN (gm_sub hP isC hC) (hD.sub isC hnC hC)⟩ rfl hAs hsz rfl (lv_room hW) hdg hf
end GRUN
section GCALL
variable {p : Program} {l : Launch} {e : Env} {R : Room} {s : State} {m : MethodId} {args : Array Value} {below : List Frame} {meth : Method} {c : Code} {H : Heap} {locs : List Loc} {cells slots cells2 slots2 : Nat} {Q : State → Prop} {mc ms : Nat} {rest st0 : List Value} {pc : Nat} {ls : Array Slot} {a : Array Value}
variable {D : va_G} {cl : List vw_C} {tys : List (ClassId × FieldType)} {ws wc wr : va_W} {A : Nat → Prop} {S : Type} {wf wn : S → va_W}
theorem gc_i {post : Int32 → S → Prop} (hr : va_Run p l e R s m args below meth c H locs cells slots mc ms (F0 m pc ls st0) rest (va_Qi post (gm_B D cl tys (va_A wc H.size) wf) (va_A wc H.size) a) (va_A wc H.size)) (hc : cells + mc = cells2) (hs : slots + ms = slots2) (hP : va_P D cl ws H) (hD : va_D A ws) (hS : va_S A s.heap H locs) (hA : ∀ q, s.heap.size ≤ q → A q)
    (isC isR pm : List Nat) (hC : isC.map (fun i => ws[i]?) = wc.map some) (hR : isR.map (fun i => ws[i]?) = wr.map some) (hn : va_nd isR = true) (hdis : ∀ i ∈ isR, i ∉ isC) (hpn : va_nd pm = true) (hpm : ∀ u, pm.map (fun i => (wr ++ wf u)[i]?) = (wn u).map some)
    (kk : ∀ (r : Int32) (u : S) (H1 : Heap) (locs1 : List Loc), post r u → va_P D cl (wn u) H1 → va_D A (wn u) → va_S A s.heap H1 locs1 → W p l e R s m args below meth c H1 locs1 cells2 slots2 Q (F0 m (pc + 3) ls (.int r :: rest))) :
    W p l e R s m args below meth c H locs cells slots Q (F0 m pc ls st0) := by
  subst hc; subst hs
  have hF := va_free hD hS hA isC hC
  refine va_calli hr hS (fun q _ h => hF q h) hF (fun r u t H1 locs1 ht hvm hp hB hz hk hS1 => ?_)
  obtain ⟨hP1, hK1, hD1⟩ := hB
  rw [ht] at hP1
  obtain ⟨hP2, hD2⟩ := va_join hP hD isC isR hC hR hn hdis hk hF hP1 hD1
  exact kk r u H1 locs1 hp (gm_sub hP2 pm (hpm u)) (hD2.sub pm hpn (hpm u)) hS1
theorem gc_l {post : Int64 → S → Prop} (hr : va_Run p l e R s m args below meth c H locs cells slots mc ms (F0 m pc ls st0) rest (va_Ql post (gm_B D cl tys (va_A wc H.size) wf) (va_A wc H.size) a) (va_A wc H.size)) (hc : cells + mc = cells2) (hs : slots + ms = slots2) (hP : va_P D cl ws H) (hD : va_D A ws) (hS : va_S A s.heap H locs) (hA : ∀ q, s.heap.size ≤ q → A q)
    (isC isR pm : List Nat) (hC : isC.map (fun i => ws[i]?) = wc.map some) (hR : isR.map (fun i => ws[i]?) = wr.map some) (hn : va_nd isR = true) (hdis : ∀ i ∈ isR, i ∉ isC) (hpn : va_nd pm = true) (hpm : ∀ u, pm.map (fun i => (wr ++ wf u)[i]?) = (wn u).map some)
    (kk : ∀ (r : Int64) (u : S) (H1 : Heap) (locs1 : List Loc), post r u → va_P D cl (wn u) H1 → va_D A (wn u) → va_S A s.heap H1 locs1 → W p l e R s m args below meth c H1 locs1 cells2 slots2 Q (F0 m (pc + 3) ls (.long r :: rest))) :
    W p l e R s m args below meth c H locs cells slots Q (F0 m pc ls st0) := by
  subst hc; subst hs
  have hF := va_free hD hS hA isC hC
  refine va_calll hr hS (fun q _ h => hF q h) hF (fun r u t H1 locs1 ht hvm hp hB hz hk hS1 => ?_)
  obtain ⟨hP1, hK1, hD1⟩ := hB
  rw [ht] at hP1
  obtain ⟨hP2, hD2⟩ := va_join hP hD isC isR hC hR hn hdis hk hF hP1 hD1
  exact kk r u H1 locs1 hp (gm_sub hP2 pm (hpm u)) (hD2.sub pm hpn (hpm u)) hS1
theorem gc_v {post : S → Prop} (hr : va_Run p l e R s m args below meth c H locs cells slots mc ms (F0 m pc ls st0) rest (va_Qv post (gm_B D cl tys (va_A wc H.size) wf) (va_A wc H.size) a) (va_A wc H.size)) (hc : cells + mc = cells2) (hs : slots + ms = slots2) (hP : va_P D cl ws H) (hD : va_D A ws) (hS : va_S A s.heap H locs) (hA : ∀ q, s.heap.size ≤ q → A q)
    (isC isR pm : List Nat) (hC : isC.map (fun i => ws[i]?) = wc.map some) (hR : isR.map (fun i => ws[i]?) = wr.map some) (hn : va_nd isR = true) (hdis : ∀ i ∈ isR, i ∉ isC) (hpn : va_nd pm = true) (hpm : ∀ u, pm.map (fun i => (wr ++ wf u)[i]?) = (wn u).map some)
    (kk : ∀ (u : S) (H1 : Heap) (locs1 : List Loc), post u → va_P D cl (wn u) H1 → va_D A (wn u) → va_S A s.heap H1 locs1 → W p l e R s m args below meth c H1 locs1 cells2 slots2 Q (F0 m (pc + 3) ls (rest))) :
    W p l e R s m args below meth c H locs cells slots Q (F0 m pc ls st0) := by
  subst hc; subst hs
  have hF := va_free hD hS hA isC hC
  refine va_callv hr hS (fun q _ h => hF q h) hF (fun u t H1 locs1 ht hvm hp hB hz hk hS1 => ?_)
  obtain ⟨hP1, hK1, hD1⟩ := hB
  rw [ht] at hP1
  obtain ⟨hP2, hD2⟩ := va_join hP hD isC isR hC hR hn hdis hk hF hP1 hD1
  exact kk u H1 locs1 hp (gm_sub hP2 pm (hpm u)) (hD2.sub pm hpn (hpm u)) hS1
end GCALL
end
